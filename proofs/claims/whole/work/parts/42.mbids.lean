/-! THE MODEL's BIDS -/
def sg_u3 (t : Int) : Int := if t = -1 then -9 else t / 3
def sg_m3 (t : Int) : Int := if t = -1 then -9 else t % 3
/-- what is found of each acre -/
def sg_Fd (S M : mv_Mem) : Prop := ∀ k, k < 48 → (sg_ok S k → M 117 k = sg_u3 (sg_tk S k) ∧ M 118 k = sg_m3 (sg_tk S k) ∧ M 119 k = sg_mx S k) ∧ (¬ sg_ok S k → M 117 k = -9 ∧ M 118 k = -9 ∧ M 119 k = 0)
section MB
variable {S : mv_Mem} {G : mv_G} {l : Nat} {M : mv_Mem} {F : Int → mv_Mem → Prop}
theorem md_yieldOf (hw : sg_wf S) (hM : sg_Mo S M) {u : Nat} {s : Int} (hu : u < 6) (hs : 0 ≤ s ∧ s ≤ 9) (h : F (sg_yl S u s) M) : mv_Wp G 165 [.inr (.inr 88), .inl (u : Int), .inl s] (mh l) M (mv_qi (mh l) F) := by
  refine vw_X12_yieldOf ?_
  obtain ⟨c1, c2, c3, -⟩ := hM.2.2.2.2.2.2.1 u hu
  have hb := sg_w8 hw hu
  have h1 : 0 ≤ S 10 u * s := Int.mul_nonneg hb.2.2.1.1 hs.1
  have h2 : S 10 u * s ≤ 99 * 9 := Int.mul_le_mul hb.2.2.1.2 hs.2 hs.1 (by omega)
  rw [Int.toNat_natCast, c1, c2, c3]
  unfold sg_yl at h
  refine ⟨by omega, ?_⟩
  split
  · rename_i q
    rw [if_pos q] at h
    exact ⟨by omega, mv_qi_i h⟩
  · rename_i q
    rw [if_neg q] at h
    exact ⟨by omega, by omega, by omega, by omega, mv_qi_i h⟩
theorem md_mean (hw : sg_wf S) (hM : sg_Mo S M) {u : Nat} (hu : u < 6) (h : F (sg_mn S u) M) : mv_Wp G 166 [.inr (.inr 88), .inl (u : Int)] (mh l) M (mv_qi (mh l) F) := by
  obtain ⟨c1, -, -, -, -, -, c7⟩ := hM.2.2.2.2.2.2.1 u hu
  have hb := (sg_w8 hw hu).2.2.2.2.2.2
  have hmn := sg_mn_b hw hu
  have key : ∀ (n i : Nat), ((i + n : Nat) : Int) = S 15 u → mv_Run G 166 136 7420 4 [(0, .inr (.inr 88)), (1, .inl (u : Int)), (2, .inl (sg_ys S u i)), (3, .inl (i : Int))] [] (mh l) M (mv_qi (mh l) F) := by
    intro n
    induction n with
    | zero =>
      intro i hi
      refine vr_X12_mean_4 ?_
      rw [Int.toNat_natCast, c7, c1, if_pos (by omega)]
      have e : i = (S 15 u).toNat := by omega
      subst e
      refine ⟨by omega, by omega, ?_⟩
      unfold sg_mn at h hmn
      split
      · refine ⟨by omega, ?_⟩
        split
        · rename_i q
          rw [if_pos q] at h
          exact mv_qi_i h
        · rename_i q
          rw [if_neg q] at h hmn
          exact ⟨by omega, ⟨q, by omega⟩, mv_qi_i h⟩
      · rename_i q
        rw [if_pos (hw.2.2.2.2.2.2.2.2.1 u hu q)] at h
        exact mv_qi_i h
    | succ n ih =>
      intro i hi
      refine vr_X12_mean_4 ?_
      have h1 := sg_ys_b hw hu i (by omega)
      have h2 := hw.2.2.2.2.1.2.2.2.2.2.2.1 (6 * u + i) (by omega)
      have c111 : M 111 (6 * u + i) = S 14 (6 * u + i) := hM.2.2.2.2.2.2.2.1 _ (by omega)
      rw [Int.toNat_natCast, c7, if_neg (by omega), show Int.toNat (6 * (u : Int) + (i : Int)) = 6 * u + i by omega, c111]
      exact ⟨by omega, by omega, by omega, by omega, by omega, by omega, ih (i + 1) (by omega)⟩
  refine vw_X12_mean ?_
  exact key (S 15 u).toNat 0 (by omega)
theorem md_fareOf (hw : sg_wf S) (hM : sg_Mo S M) {u : Nat} (hu : u < 6) (h : F (sg_fa S u) M) : mv_Wp G 167 [.inr (.inr 88), .inl (u : Int)] (mh l) M (mv_qi (mh l) F) := by
  refine vw_X12_fareOf ?_
  obtain ⟨c1, -, -, -, c5, -⟩ := hM.2.2.2.2.2.2.1 u hu
  have hb := sg_w8 hw hu
  unfold sg_fa at h
  rw [Int.toNat_natCast, c1, c5, sg_td hb.2.2.2.2.1.1]
  refine ⟨by omega, ?_⟩
  split
  · rename_i q
    rw [if_pos q] at h
    exact ⟨by omega, ⟨by decide, by omega⟩, mv_qi_i h⟩
  · rename_i q
    rw [if_neg q] at h
    exact ⟨by omega, mv_qi_i h⟩
theorem md_worth (hw : sg_wf S) (hM : sg_Mo S M) {u m : Nat} {s : Int} (hu : u < 6) (hm : m < 3) (hs : 0 ≤ s ∧ s ≤ 9) (h : F (sg_wt S (3 * u + m) s) M) : mv_Wp G 168 [.inr (.inr 88), .inl (u : Int), .inl s, .inl (m : Int)] (mh l) M (mv_ql (mh l) F) := by
  refine vw_X12_worth ?_
  have ho : 3 * u + m < 18 := by omega
  have c113 : M 113 (3 * u + m) = S 16 (3 * u + m) := (hM.2.2.2.2.2.2.2.2.1 _ ho).1
  obtain ⟨-, -, -, c4, -, c6, -⟩ := hM.2.2.2.2.2.2.1 u hu
  have hb := sg_w8 hw hu
  have h1 := sg_yp_b hw ho hs
  have hmn := sg_mn_b hw hu
  have hp := (sg_w16 hw ho).1
  have e : (3 * u + m) / 3 = u := by omega
  unfold sg_wt at h
  rw [e] at h h1
  refine md_yieldOf hw hM hu hs ?_
  rw [show Int.toNat (3 * (u : Int) + (m : Int)) = 3 * u + m by omega, c113]
  refine ⟨by omega, by omega, by omega, md_mean hw hM hu ?_⟩
  rw [Int.toNat_natCast, c4, c6]
  exact ⟨by omega, by omega, by omega, by omega, by omega, by omega, by omega, mv_ql_i h⟩
theorem md_wayOf (hM : sg_Mo S M) (hW : sg_MW S M) (hw : sg_wf S) {u k m : Nat} (hu : u < 6) (hk : sg_ok S k) (hm : (m : Int) < S 0 2) (h : F (sg_wo S (3 * u + m) k) M) : mv_Wp G 169 [.inr (.inr 88), .inl (u : Int), .inl (k : Int), .inl (m : Int)] (mh l) M (mv_qi (mh l) F) := by
  refine vw_X12_wayOf ?_
  have hm3 := hw.1.2.2.1
  have hk48 := sg_ok_48 hw hk
  obtain ⟨c1, -⟩ := hM.2.2.2.2.2.2.1 u hu
  obtain ⟨w1, w2⟩ := hW m k hm hk
  unfold sg_wo at h
  rw [show (3 * u + m) / 3 = u by omega, show (3 * u + m) % 3 = m by omega] at h
  rw [Int.toNat_natCast, c1]
  refine ⟨by omega, by omega, ?_⟩
  split
  · rename_i q
    rw [decide_eq_true q] at h
    rw [show Int.toNat (48 * (2 * (m : Int) + 1) + (k : Int)) = 48 * (2 * m + 1) + k by omega, w2]
    exact ⟨by omega, by omega, by omega, by omega, mv_qi_i h⟩
  · rename_i q
    rw [decide_eq_false q] at h
    rw [show Int.toNat (48 * (2 * (m : Int) + 0) + (k : Int)) = 48 * (2 * m) + k by omega, w1]
    exact ⟨by omega, by omega, by omega, by omega, mv_qi_i h⟩
theorem md_bidOf (hM : sg_Mo S M) (hW : sg_MW S M) (hw : sg_wf S) {u k m : Nat} (hu : u < 6) (hk : sg_ok S k) (hm : (m : Int) < S 0 2) (h : F (sg_bid S (3 * u + m) k) M) : mv_Wp G 170 [.inr (.inr 88), .inl (u : Int), .inl (k : Int), .inl (m : Int)] (mh l) M (mv_ql (mh l) F) := by
  refine vw_X12_bidOf ?_
  have hm3 := hw.1.2.2.1
  have hk48 := sg_ok_48 hw hk
  obtain ⟨c1, -⟩ := hM.2.2.2.2.2.2.1 u hu
  have c91 : M 91 k = S 1 k := (hM.2.1 k hk).1
  have hs := sg_s1 hw hk
  have ho : 3 * u + m < 18 := by omega
  have hmo : (((3 * u + m) % 3 : Nat) : Int) < S 0 2 := by omega
  have hwo := sg_wo_b hw hmo hk
  have hwt := sg_wt_b hw ho hs
  have hcr := sg_cr_b hw hu hs
  have hfa := sg_fa_b hw hu
  have hyl := sg_yl_b hw hu hs
  have ecr : sg_cr S u (S 1 k) = sg_fa S u * sg_yl S u (S 1 k) := rfl
  have h4 : 0 ≤ sg_cr S u (S 1 k) * sg_wo S (3 * u + m) k := Int.mul_nonneg hcr.1 hwo.1
  have h5 : sg_cr S u (S 1 k) * sg_wo S (3 * u + m) k ≤ 98010 * 2376 := Int.mul_le_mul hcr.2 hwo.2 hwo.1 (by omega)
  have e3 : (3 * u + m) / 3 = u := by omega
  have tail : sg_cg S u (sg_wo S (3 * u + m) k) → (0 ≤ (k : Int) ∧ (k : Int) < ((48 : Nat) : Int)) ∧
      mv_Wp G 168 [.inr (.inr 88), .inl (u : Int), .inl (S 1 k), .inl (m : Int)] (mh l) M (mv_ql (mh l) fun x1 M1 =>
      mv_Wp G 167 [.inr (.inr 88), .inl (u : Int)] (mh l) M1 (mv_qi (mh l) fun x2 M2 =>
      (0 ≤ (k : Int) ∧ (k : Int) < ((48 : Nat) : Int)) ∧
      mv_Wp G 165 [.inr (.inr 88), .inl (u : Int), .inl (M2 91 k)] (mh l) M2 (mv_qi (mh l) fun x3 M3 =>
      mv_R64 (x2 * x3) ∧
      mv_Wp G 169 [.inr (.inr 88), .inl (u : Int), .inl (k : Int), .inl (m : Int)] (mh l) M3 (mv_qi (mh l) fun x4 M4 =>
      mv_R64 ((x2 * x3) * x4) ∧
      mv_R64 (x1 - ((x2 * x3) * x4)) ∧
      mv_ql (mh l) F (some (.inr (.inl (x1 - ((x2 * x3) * x4))))) (mh l) M4)))) := by
    intro hg
    have e : sg_bid S (3 * u + m) k = sg_wt S (3 * u + m) (S 1 k) - sg_cr S u (S 1 k) * sg_wo S (3 * u + m) k := by
      unfold sg_bid
      rw [e3]
      exact sg_if_y hg
    rw [e] at h
    refine ⟨by omega, md_worth hw hM hu (by omega) hs (md_fareOf hw hM hu ⟨by omega, ?_⟩)⟩
    rw [c91]
    refine md_yieldOf hw hM hu hs ?_
    rw [← ecr]
    exact ⟨by omega, md_wayOf hM hW hw hu hk hm ⟨by omega, by omega, mv_ql_i h⟩⟩
  rw [Int.toNat_natCast, c1, Int.toNat_natCast, c91]
  refine ⟨by omega, ?_⟩
  split
  · rename_i q
    have e : sg_bid S (3 * u + m) k = 0 := by
      unfold sg_bid
      rw [e3]
      exact sg_if_n (fun z => z.1 q)
    rw [e] at h
    exact mv_ql_i h
  · rename_i q
    refine ⟨by omega, ?_⟩
    split
    · rename_i q2
      refine md_wayOf hM hW hw hu hk hm ?_
      split
      · rename_i q3
        rw [c91]
        exact tail ⟨q, fun _ => q3⟩
      · rename_i q3
        have e : sg_bid S (3 * u + m) k = 0 := by
          unfold sg_bid
          rw [e3]
          exact sg_if_n (fun z => q3 (z.2 q2))
        rw [e] at h
        exact mv_ql_i h
    · rename_i q2
      exact tail ⟨q, fun z => absurd z q2⟩
/-- offers of markets that are not there are passed over -/
theorem sg_g_skip {w : Int} {k : Nat} : ∀ j n : Nat, (∀ i, n ≤ i → i < n + j → S 0 2 ≤ ((i % 3 : Nat) : Int)) → sg_g S w k (n + j) = sg_g S w k n
  | 0, _, _ => rfl
  | j + 1, n, h => by
    have e : sg_g S w k (n + j + 1) = sg_g S w k (n + j) := by
      conv => lhs; unfold sg_g
      rw [if_neg (fun z => by have := z.1; have := h (n + j) (by omega) (by omega); omega)]
    exact e.trans (sg_g_skip j n (fun i h1 h2 => h i h1 (by omega)))
theorem sg_u3_n (o : Nat) : sg_u3 (o : Int) = ((o / 3 : Nat) : Int) := by
  unfold sg_u3
  rw [if_neg (by omega)]
  omega
theorem sg_m3_n (o : Nat) : sg_m3 (o : Int) = ((o % 3 : Nat) : Int) := by
  unfold sg_m3
  rw [if_neg (by omega)]
  omega
/-- what a row of three cells says of the fold -/
def sg_F3 (S M : mv_Mem) (w : Int) (k n : Nat) : Prop := M 117 k = sg_u3 (sg_g S w k n).1 ∧ M 118 k = sg_m3 (sg_g S w k n).1 ∧ M 119 k = (sg_g S w k n).2
theorem sg_F3_e {w : Int} {k n n' : Nat} (h : sg_F3 S M w k n) (e : sg_g S w k n' = sg_g S w k n) : sg_F3 S M w k n' := by
  unfold sg_F3
  rw [e]
  exact h
/-- cells that a finding leaves as they are -/
def sg_fx (k : Nat) (M0 M : mv_Mem) : Prop := ∀ a i, ¬ (117 ≤ a ∧ a ≤ 119 ∧ i = k) → M a i = M0 a i
theorem sg_fx_o {k : Nat} {M0 : mv_Mem} (hM : sg_Mo S M0) (hW : sg_MW S M0) (h : sg_fx k M0 M) : sg_Mo S M ∧ sg_MW S M :=
  ⟨sg_Mo_fr hM (fun a i ha => h a i (by unfold sg_mc at ha; omega)), fun m j h1 h2 => by rw [h 104 _ (by omega), h 104 _ (by omega)]; exact hW m j h1 h2⟩
theorem md_findGoing (hw : sg_wf S) {M0 : mv_Mem} {F : mv_Mem → Prop} (hM : sg_Mo S M0) (hW : sg_MW S M0) {k : Nat} (hk : k < 48)
    (h : ∀ M, sg_fx k M0 M → ((sg_ok S k → M 117 k = sg_u3 (sg_tk S k) ∧ M 118 k = sg_m3 (sg_tk S k) ∧ M 119 k = sg_mx S k) ∧ (¬ sg_ok S k → M 117 k = -9 ∧ M 118 k = -9 ∧ M 119 k = 0)) → F M) :
    mv_Wp G 172 [.inr (.inr 88), .inl (k : Int)] (mh l) M0 (mv_qv (mh l) F) := by
  have hnu := sg_nu hw
  have hm3 := hw.1.2.2.1
  obtain ⟨mk, hmk⟩ := sg_nat hm3.1
  -- an acre that is there and not held
  have main : sg_ok S k → S 4 k = 0 → ∀ (q u : Nat) (M : mv_Mem), ((u + q : Nat) : Int) = S 0 3 → sg_fx k M0 M → sg_F3 S M (-1) k (3 * u) → mv_Run G 172 136 7420 25 [(0, .inr (.inr 88)), (1, .inl (k : Int)), (2, .inl (u : Int))] [] (mh l) M (mv_qv (mh l) F) := by
    intro hok h4 q
    have e1 : sg_tk S k = (sg_g S (-1) k (3 * (S 0 3).toNat)).1 := if_pos h4
    have e2 : sg_mx S k = (sg_g S (-1) k (3 * (S 0 3).toNat)).2 := if_pos h4
    induction q with
    | zero =>
      intro u M hu hfr h3
      refine vr_X12_findGoing_25 ?_
      obtain ⟨hMM, hWM⟩ := sg_fx_o hM hW hfr
      have c1 : M 88 36 = S 0 3 := hMM.1.2.2.2.1
      rw [c1, if_pos (by omega)]
      have e : u = (S 0 3).toNat := by omega
      subst e
      refine mv_qv_i (h M hfr ⟨fun _ => ?_, fun z => absurd hok z⟩)
      rw [e1, e2]
      exact h3
    | succ q ih =>
      intro u M hu hfr h3
      refine vr_X12_findGoing_25 ?_
      obtain ⟨hMM, hWM⟩ := sg_fx_o hM hW hfr
      have c1 : M 88 36 = S 0 3 := hMM.1.2.2.2.1
      have c95 : M 95 k = S 4 k := (hMM.2.1 k hok).2.2.2
      rw [c1, if_neg (by omega)]
      refine md_isAcre hw hMM (fun _ => ?_) (fun z => absurd hok z)
      rw [if_neg (by decide), Int.toNat_natCast, c95, if_pos h4]
      refine ⟨by omega, ?_⟩
      have inner : ∀ (r m : Nat) (M : mv_Mem), m + r = mk → sg_fx k M0 M → sg_F3 S M (-1) k (3 * u + m) → mv_Run G 172 136 7420 52 [(0, .inr (.inr 88)), (1, .inl (k : Int)), (2, .inl (u : Int)), (3, .inl (m : Int))] [] (mh l) M (mv_qv (mh l) F) := by
        intro r
        induction r with
        | zero =>
          intro m M hm hfr h3
          refine vr_X12_findGoing_52 ?_
          obtain ⟨hMM, hWM⟩ := sg_fx_o hM hW hfr
          have c2 : M 88 23 = S 0 2 := hMM.1.2.2.1
          rw [c2, if_pos (by omega)]
          refine ⟨by omega, ih (u + 1) M (by omega) hfr (sg_F3_e h3 ?_)⟩
          have := sg_g_skip (S := S) (w := -1) (k := k) (3 - m) (3 * u + m) (fun i h1 h2 => by omega)
          rw [show 3 * u + m + (3 - m) = 3 * (u + 1) by omega] at this
          exact this
        | succ r ihr =>
          intro m M hm hfr h3
          refine vr_X12_findGoing_52 ?_
          obtain ⟨hMM, hWM⟩ := sg_fx_o hM hW hfr
          have c2 : M 88 23 = S 0 2 := hMM.1.2.2.1
          rw [c2, if_neg (by omega)]
          refine md_bidOf hMM hWM hw (by omega) hok (by omega) ?_
          simp only [mv_cmp_gt]
          rw [Int.toNat_natCast, h3.2.2]
          refine ⟨by omega, ?_⟩
          split
          · rename_i z
            have e : sg_g S (-1) k (3 * u + (m + 1)) = (((3 * u + m : Nat) : Int), sg_bid S (3 * u + m) k) := by
              show sg_g S (-1) k ((3 * u + m) + 1) = _
              conv => lhs; unfold sg_g
              rw [if_pos ⟨by omega, by omega, z⟩]
            refine ⟨by omega, by omega, by omega, by omega, ihr (m + 1) _ (by omega) (fun a i ha => by rw [mv_up_n (fun z => ha (by omega)), mv_up_n (fun z => ha (by omega)), mv_up_n (fun z => ha (by omega))]; exact hfr a i ha) ?_⟩
            unfold sg_F3
            rw [e]
            dsimp only
            rw [sg_u3_n, sg_m3_n]
            refine ⟨?_, ?_, ?_⟩
            · rw [mv_up_c (by decide), mv_up_s]
              omega
            · rw [mv_up_s]
              omega
            · rw [mv_up_c (by decide), mv_up_c (by decide), mv_up_s]
          · rename_i z
            refine ⟨by omega, ihr (m + 1) M (by omega) hfr (sg_F3_e h3 ?_)⟩
            show sg_g S (-1) k ((3 * u + m) + 1) = _
            conv => lhs; unfold sg_g
            rw [if_neg (fun y => z y.2.2)]
      exact inner mk 0 M (by omega) hfr h3
  refine vw_X12_findGoing ?_
  rw [Int.toNat_natCast]
  refine ⟨by omega, by omega, by omega, ?_⟩
  have hfr : sg_fx k M0 (mv_up (mv_up (mv_up M0 117 k (-9)) 118 k (-9)) 119 k 0) := fun a i ha => by rw [mv_up_n (fun z => ha (by omega)), mv_up_n (fun z => ha (by omega)), mv_up_n (fun z => ha (by omega))]
  have g1 : (mv_up (mv_up (mv_up M0 117 k (-9)) 118 k (-9)) 119 k 0) 117 k = -9 := by rw [mv_up_c (by decide), mv_up_c (by decide), mv_up_s]
  have g2 : (mv_up (mv_up (mv_up M0 117 k (-9)) 118 k (-9)) 119 k 0) 118 k = -9 := by rw [mv_up_c (by decide), mv_up_s]
  have g3 : (mv_up (mv_up (mv_up M0 117 k (-9)) 118 k (-9)) 119 k 0) 119 k = 0 := mv_up_s
  obtain ⟨hMM, hWM⟩ := sg_fx_o hM hW hfr
  by_cases hok : sg_ok S k
  · by_cases h4 : S 4 k = 0
    · exact main hok h4 (S 0 3).toNat 0 _ (by omega) hfr ⟨g1, g2, g3⟩
    · have e1 : sg_tk S k = -1 := if_neg h4
      have e2 : sg_mx S k = 0 := if_neg h4
      have fin := h _ hfr ⟨fun _ => by rw [e1, e2]; exact ⟨g1, g2, g3⟩, fun z => absurd hok z⟩
      refine vr_X12_findGoing_25 ?_
      split
      · exact mv_qv_i fin
      · refine md_isAcre hw hMM (fun _ => ?_) (fun z => absurd hok z)
        have c95 := (hMM.2.1 k hok).2.2.2
        rw [if_neg (by decide), Int.toNat_natCast, c95, if_neg h4]
        exact ⟨by omega, mv_qv_i fin⟩
  · have fin := h _ hfr ⟨fun z => absurd z hok, fun _ => ⟨g1, g2, g3⟩⟩
    refine vr_X12_findGoing_25 ?_
    split
    · exact mv_qv_i fin
    · refine md_isAcre hw hMM (fun z => absurd z hok) (fun _ => ?_)
      rw [if_pos rfl]
      exact mv_qv_i fin
/-- cells that all finding leaves as they are -/
def sg_fq (M0 M : mv_Mem) : Prop := ∀ a i, a ≠ 100 → a ≠ 104 → ¬ (117 ≤ a ∧ a ≤ 119) → M a i = M0 a i
theorem sg_fq_o {M0 : mv_Mem} {n : Nat} (hM : sg_Mo S M0) (hR : sg_Rl S M0 n) (h : sg_fq M0 M) : sg_Mo S M ∧ sg_Rl S M n :=
  ⟨sg_Mo_fr hM (fun a i ha => h a i (by unfold sg_mc at ha; omega) (by unfold sg_mc at ha; omega) (by unfold sg_mc at ha; omega)), sg_Rl_fr hR (h 88 17 (by decide) (by decide) (by decide)) (fun a i h1 h2 => h a i (by omega) (by omega) (by omega))⟩
theorem md_finds (hw : sg_wf S) {M0 : mv_Mem} {F : mv_Mem → Prop} {n : Nat} (hM : sg_Mo S M0) (hR : sg_Rl S M0 n) (h : ∀ M, sg_fq M0 M → sg_MW S M → sg_Fd S M → F M) : mv_Wp G 173 [.inr (.inr 88)] (mh l) M0 (mv_qv (mh l) F) := by
  have key : ∀ (q k : Nat) (M : mv_Mem), k + q = 48 → sg_fq M0 M → sg_MW S M → (∀ j, j < k → (sg_ok S j → M 117 j = sg_u3 (sg_tk S j) ∧ M 118 j = sg_m3 (sg_tk S j) ∧ M 119 j = sg_mx S j) ∧ (¬ sg_ok S j → M 117 j = -9 ∧ M 118 j = -9 ∧ M 119 j = 0)) →
      mv_Run G 173 136 7420 6 [(0, .inr (.inr 88)), (1, .inl (k : Int))] [] (mh l) M (mv_qv (mh l) F) := by
    intro q
    induction q with
    | zero =>
      intro k M hk hfr hW hd
      refine vr_X12_finds_6 ?_
      rw [if_pos (by omega)]
      exact mv_qv_i (h M hfr hW (fun j hj => hd j (by omega)))
    | succ q ih =>
      intro k M hk hfr hW hd
      refine vr_X12_finds_6 ?_
      rw [if_neg (by omega)]
      refine md_findGoing hw (sg_fq_o hM hR hfr).1 hW (by omega) (fun M1 f1 g1 => ⟨by omega, ih (k + 1) M1 (by omega) (fun a i a1 a2 a3 => (f1 a i (by omega)).trans (hfr a i a1 a2 a3)) (fun m j h1 h2 => by rw [f1 104 _ (by omega), f1 104 _ (by omega)]; exact hW m j h1 h2) (fun j hj => ?_)⟩)
      by_cases z : j = k
      · rw [z]
        exact g1
      · rw [f1 117 j (by omega), f1 118 j (by omega), f1 119 j (by omega)]
        exact hd j (by omega)
  refine vw_X12_finds (md_findMarketWays hw hM hR (fun M1 f1 w1 => ?_))
  exact key 48 0 M1 (by omega) (fun a i a1 a2 _ => f1 a i a1 a2) w1 (fun j hj => by omega)
theorem md_boughtOf (hw : sg_wf S) (hM : sg_Mo S M) {u m : Nat} {v : Int} (hu : u < 6) (hm : m < 3) (h : F (sg_bo S (3 * u + m) v) M) : mv_Wp G 181 [.inr (.inr 88), .inl (u : Int), .inl (m : Int), .inl v] (mh l) M (mv_qi (mh l) F) := by
  have ho : 3 * u + m < 18 := by omega
  have c1 : M 116 (3 * u + m) = S 19 (3 * u + m) := (hM.2.2.2.2.2.2.2.2.1 _ ho).2
  have hb := (sg_w16 hw ho).2
  have eo : Int.toNat (3 * (u : Int) + (m : Int)) = 3 * u + m := by omega
  have key : ∀ (n i : Nat) (x : Int), 6 * (3 * u + m) ≤ i → ((i + n : Nat) : Int) = ((6 * (3 * u + m) : Nat) : Int) + S 19 (3 * u + m) → 0 ≤ x → x ≤ 9999 * ((i : Int) - 6 * (3 * u + m)) → F (x + sg_bs S v n i) M →
      mv_Run G 181 136 7420 13 [(0, .inr (.inr 88)), (1, .inl (u : Int)), (2, .inl (m : Int)), (3, .inl v), (4, .inl x), (5, .inl (i : Int))] [] (mh l) M (mv_qi (mh l) F) := by
    intro n
    induction n with
    | zero =>
      intro i x hi hn hx hx2 hF
      refine vr_X12_boughtOf_13 ?_
      rw [eo, c1, if_pos (by omega)]
      unfold sg_bs at hF
      rw [Int.add_zero] at hF
      exact ⟨by omega, by omega, by omega, by omega, by omega, by omega, by omega, mv_qi_i hF⟩
    | succ n ih =>
      intro i x hi hn hx hx2 hF
      refine vr_X12_boughtOf_13 ?_
      obtain ⟨c2, c3⟩ := hM.2.2.2.2.2.2.2.2.2.1 i (by omega)
      have hb2 := sg_w17 hw (show i < 108 by omega)
      rw [eo, c1, if_neg (by omega), Int.toNat_natCast, c2, c3]
      unfold sg_bs at hF
      refine ⟨by omega, by omega, by omega, by omega, by omega, by omega, by omega, by omega, ?_⟩
      split
      · rename_i q
        rw [if_neg (by omega), Int.zero_add] at hF
        rw [Int.add_zero]
        exact ⟨by omega, by omega, ih (i + 1) x (by omega) (by omega) hx (by omega) hF⟩
      · rename_i q
        rw [if_pos (by omega), ← Int.add_assoc] at hF
        exact ⟨by omega, by omega, by omega, ih (i + 1) _ (by omega) (by omega) (by omega) (by omega) hF⟩
  refine vw_X12_boughtOf ?_
  refine ⟨by omega, by omega, by omega, ?_⟩
  have K := key (S 19 (3 * u + m)).toNat (6 * (3 * u + m)) 0 (Nat.le_refl _) (by omega) (by omega) (by omega) (by rw [Int.zero_add]; exact h)
  rw [show ((6 * (3 * u + m) : Nat) : Int) = 6 * (3 * (u : Int) + (m : Int)) by omega] at K
  exact K
end MB
