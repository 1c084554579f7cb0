/-! THE CLASS's BIDS: what an offer (o = 3 use + market) bids for an acre, which offer takes it -/
noncomputable def sg_if (P : Prop) (a b : Int) : Int := @ite Int P (Classical.propDecidable P) a b
theorem sg_if_y {P : Prop} {a b : Int} (h : P) : sg_if P a b = a := if_pos h
theorem sg_if_n {P : Prop} {a b : Int} (h : ¬ P) : sg_if P a b = b := if_neg h
/-- an offer's way to an acre -/
noncomputable def sg_wo (S : mv_Mem) (o k : Nat) : Int := sg_way S (decide (S 8 (o / 3) = 1)) (S 7 (o % 3)).toNat k
noncomputable def sg_bid (S : mv_Mem) (o k : Nat) : Int := sg_if (sg_cg S (o / 3) (sg_wo S o k)) (sg_wt S o (S 1 k) - sg_cr S (o / 3) (S 1 k) * sg_wo S o k) 0
/-- the offer with the greatest bid above 0 among the first n, one (w) left out; its bid -/
noncomputable def sg_g (S : mv_Mem) (w : Int) (k : Nat) : Nat → Int × Int
  | 0 => (-1, 0)
  | n + 1 => if ((n % 3 : Nat) : Int) < S 0 2 ∧ (n : Int) ≠ w ∧ (sg_g S w k n).2 < sg_bid S n k then ((n : Int), sg_bid S n k) else sg_g S w k n
noncomputable def sg_tk (S : mv_Mem) (k : Nat) : Int := if S 4 k = 0 then (sg_g S (-1) k (3 * (S 0 3).toNat)).1 else -1
noncomputable def sg_mx (S : mv_Mem) (k : Nat) : Int := if S 4 k = 0 then (sg_g S (-1) k (3 * (S 0 3).toNat)).2 else 0
noncomputable def sg_rt (S : mv_Mem) (k : Nat) : Int := sg_mx S k - (sg_mx S k * S 0 4).tdiv 100
/-- the bids, the takers stand in the cells -/
def sg_Bd (S M : mv_Mem) : Prop := ∀ o k : Nat, (o : Int) < 3 * S 0 3 → ((o % 3 : Nat) : Int) < S 0 2 → sg_ok S k → M 42 (48 * o + sg_pl S k) = sg_bid S o k
def sg_Tk (S M : mv_Mem) : Prop := ∀ k, sg_ok S k → M 43 (sg_pl S k) = sg_tk S k
section BI
variable {S : mv_Mem} {G : mv_G} {l : Nat}
theorem sg_wo_b (hw : sg_wf S) {o k : Nat} (hm : ((o % 3 : Nat) : Int) < S 0 2) (hk : sg_ok S k) : 0 ≤ sg_wo S o k ∧ sg_wo S o k ≤ 2376 :=
  sg_way_b hw _ (hw.2.2.1 (o % 3) hm).2.2 hk
theorem sg_s1 (hw : sg_wf S) {k : Nat} (hk : sg_ok S k) : 0 ≤ S 1 k ∧ S 1 k ≤ 9 := hw.2.1.1 k (sg_ok_48 hw hk)
theorem sg_bid_b (hw : sg_wf S) {o k : Nat} (ho : o < 18) (hm : ((o % 3 : Nat) : Int) < S 0 2) (hk : sg_ok S k) : -400000000 ≤ sg_bid S o k ∧ sg_bid S o k ≤ 160000000 := by
  have h1 := sg_wo_b hw hm hk
  have h2 := sg_wt_b hw ho (sg_s1 hw hk)
  have h3 := sg_cr_b hw (show o / 3 < 6 by omega) (sg_s1 hw hk)
  have h4 : 0 ≤ sg_cr S (o / 3) (S 1 k) * sg_wo S o k := Int.mul_nonneg h3.1 h1.1
  have h5 : sg_cr S (o / 3) (S 1 k) * sg_wo S o k ≤ 98010 * 2376 := Int.mul_le_mul h3.2 h1.2 h1.1 (by omega)
  by_cases q : sg_cg S (o / 3) (sg_wo S o k)
  · unfold sg_bid
    rw [sg_if_y q]
    omega
  · unfold sg_bid
    rw [sg_if_n q]
    omega
/-- what is so of the greatest -/
theorem sg_g_i (S : mv_Mem) (w : Int) (k : Nat) : ∀ n, (sg_g S w k n = (-1, 0) ∨ ∃ o : Nat, o < n ∧ ((o % 3 : Nat) : Int) < S 0 2 ∧ (o : Int) ≠ w ∧ sg_g S w k n = ((o : Int), sg_bid S o k) ∧ 0 < sg_bid S o k) := by
  intro n
  induction n with
  | zero => exact Or.inl rfl
  | succ n ih =>
    have h0 : 0 ≤ (sg_g S w k n).2 := by
      rcases ih with h | ⟨o, h1, h2, h3, h4, h5⟩
      · rw [h]; exact Int.le_refl _
      · rw [h4]; exact Int.le_of_lt h5
    unfold sg_g
    split
    · rename_i q
      exact Or.inr ⟨n, by omega, q.1, q.2.1, rfl, by omega⟩
    · rcases ih with h | ⟨o, h1, h2, h3, h4, h5⟩
      · exact Or.inl h
      · exact Or.inr ⟨o, by omega, h2, h3, h4, h5⟩
theorem sg_g_0 (S : mv_Mem) (w : Int) (k : Nat) (n : Nat) : 0 ≤ (sg_g S w k n).2 := by
  rcases sg_g_i S w k n with h | ⟨o, h1, h2, h3, h4, h5⟩
  · rw [h]; exact Int.le_refl _
  · rw [h4]; exact Int.le_of_lt h5
variable {M : mv_Mem} {F : Int → mv_Mem → Prop}
theorem sg_nu (hw : sg_wf S) : 0 ≤ S 0 3 ∧ S 0 3 ≤ 6 := hw.1.2.2.2.1
theorem sg_n3 (hw : sg_wf S) : ((3 * (S 0 3).toNat : Nat) : Int) = 3 * S 0 3 := by
  have := sg_nu hw
  omega
theorem cl_wayOf (hw : sg_wf S) (hC : sg_C 0 S M) (hW : sg_W S M) {o k : Nat} (ho : o < 18) (hm : ((o % 3 : Nat) : Int) < S 0 2) (hk : sg_ok S k) (h : F (sg_wo S o k) M) : mv_Wp G 17 [.inr (.inr 6), .inl (o : Int), .inl (sg_pl S k : Int)] (mh l) M (mv_qi (mh l) F) := by
  refine vw_X1_wayOf ?_
  have hp := (sg_pl_lt hw hk).2
  have c1 : M 18 (o / 3) = S 8 (o / 3) := (hC.2.2.2.2.2.1 (o / 3) (by omega)).1
  obtain ⟨c2, c3⟩ := hW.2.2 (o % 3) k hm hk
  have e1 : Int.tdiv (o : Int) 3 = ((o / 3 : Nat) : Int) := by rw [sg_td (by omega)]; omega
  have e2 : Int.tmod (o : Int) 3 = ((o % 3 : Nat) : Int) := by rw [sg_tm (by omega)]; omega
  rw [e1, e2, Int.toNat_natCast, c1, show Int.toNat (((o % 3 : Nat) : Int) * 48 + (sg_pl S k : Int)) = 48 * (o % 3) + sg_pl S k by omega, c2, c3]
  unfold sg_wo at h
  refine ⟨by decide, by omega, by omega, ⟨by decide, by omega⟩, by omega, ?_⟩
  split
  · rename_i q
    rw [decide_eq_true q] at h
    exact ⟨by omega, mv_qi_i h⟩
  · rename_i q
    rw [decide_eq_false q] at h
    exact ⟨by omega, mv_qi_i h⟩
theorem cl_greatest (hw : sg_wf S) (hC : sg_C 0 S M) (hB : sg_Bd S M) {k : Nat} {w : Int} (hk : sg_ok S k) (hwr : mv_R32 w) (h : F (sg_g S w k (3 * (S 0 3).toNat)).1 M) : mv_Wp G 19 [.inr (.inr 6), .inl (sg_pl S k : Int), .inl w] (mh l) M (mv_qi (mh l) F) := by
  have hp := (sg_pl_lt hw hk).2
  have c1 : M 17 0 = S 0 3 := hC.2.2.2.2.1.1
  have c2 : M 8 4 = S 0 2 := hC.1.2.2.2.2
  have hu := sg_nu hw
  have key : ∀ (n o : Nat), ((o + n : Nat) : Int) = 3 * S 0 3 →
      mv_Run G 19 87 4749 8 [(0, .inr (.inr 6)), (1, .inl (sg_pl S k : Int)), (2, .inl w), (3, .inl (sg_g S w k o).1), (4, .inr (.inl (sg_g S w k o).2)), (6, .inl (o : Int))] [] (mh l) M (mv_qi (mh l) F) := by
    intro n
    induction n with
    | zero =>
      intro o ho
      refine vr_X1_greatest_8 ?_
      rw [c1, if_pos (by omega)]
      have : o = 3 * (S 0 3).toNat := by omega
      subst this
      exact ⟨by omega, mv_qi_i h⟩
    | succ n ih =>
      intro o ho
      refine vr_X1_greatest_8 ?_
      have e2 : Int.tmod (o : Int) 3 = ((o % 3 : Nat) : Int) := by rw [sg_tm (by omega)]; omega
      rw [c1, c2, if_neg (by omega), e2, show Int.toNat ((o : Int) * 48 + (sg_pl S k : Int)) = 48 * o + sg_pl S k by omega]
      have nxt : ¬ (((o % 3 : Nat) : Int) < S 0 2 ∧ (o : Int) ≠ w ∧ (sg_g S w k o).2 < sg_bid S o k) → mv_Run G 19 87 4749 8 [(0, .inr (.inr 6)), (1, .inl (sg_pl S k : Int)), (2, .inl w), (3, .inl (sg_g S w k o).1), (4, .inr (.inl (sg_g S w k o).2)), (6, .inl ((o : Int) + 1))] [] (mh l) M (mv_qi (mh l) F) := by
        intro q
        have K := ih (o + 1) (by omega)
        have e : sg_g S w k (o + 1) = sg_g S w k o := by
          conv => lhs; unfold sg_g
          rw [if_neg q]
        rw [e] at K
        exact K
      refine ⟨by omega, by omega, by omega, by omega, ?_⟩
      split
      · rename_i q
        rw [mv_cmp_le] at q
        refine ⟨by omega, nxt (fun z => ?_)⟩
        rw [hB o k (by omega) z.1 hk] at q
        omega
      · rename_i q
        rw [mv_cmp_le] at q
        split
        · rename_i q2
          exact ⟨by omega, nxt (fun z => z.2.1 q2)⟩
        · rename_i q2
          refine ⟨by decide, ?_⟩
          split
          · rename_i q3
            exact ⟨by omega, nxt (fun z => by have := z.1; omega)⟩
          · rename_i q3
            have hb := hB o k (by omega) (by omega) hk
            rw [hb] at q ⊢
            have K := ih (o + 1) (by omega)
            have e : sg_g S w k (o + 1) = ((o : Int), sg_bid S o k) := by
              conv => lhs; unfold sg_g
              rw [if_pos ⟨by omega, q2, by omega⟩]
            rw [e] at K
            exact ⟨by omega, K⟩
  refine vw_X1_greatest ?_
  exact key (3 * (S 0 3).toNat) 0 (by omega)
theorem cl_takerOf (hw : sg_wf S) (hC : sg_C 0 S M) (hB : sg_Bd S M) {k : Nat} (hk : sg_ok S k) (h : F (sg_tk S k) M) : mv_Wp G 18 [.inr (.inr 6), .inl (sg_pl S k : Int)] (mh l) M (mv_qi (mh l) F) := by
  refine vw_X1_takerOf ?_
  have hp := (sg_pl_lt hw hk).2
  have c1 : M 13 (sg_pl S k) = S 4 k := (hC.2.1 k hk).2.2.2.2.1
  unfold sg_tk at h
  rw [Int.toNat_natCast, c1]
  refine ⟨by omega, ?_⟩
  split
  · rename_i q
    rw [if_pos q] at h
    exact cl_greatest hw hC hB hk (by omega) (mv_qi_i h)
  · rename_i q
    rw [if_neg q] at h
    exact mv_qi_i h
theorem cl_reckonOffer (hw : sg_wf S) {M0 : mv_Mem} {F : mv_Mem → Prop} (hC : sg_C 0 S M0) (hW : sg_W S M0) {o : Nat} (ho : o < 18) (hm : ((o % 3 : Nat) : Int) < S 0 2)
    (h : ∀ M, (∀ a i, ¬ (a = 42 ∧ 48 * o ≤ i ∧ i < 48 * o + 48) → M a i = M0 a i) → (∀ k, sg_ok S k → M 42 (48 * o + sg_pl S k) = sg_bid S o k) → F M) :
    mv_Wp G 16 [.inr (.inr 6), .inl (o : Int)] (mh l) M0 (mv_qv (mh l) F) := by
  obtain ⟨n48, hn1, hn2⟩ := sg_n48 hw
  have e1 : Int.tdiv (o : Int) 3 = ((o / 3 : Nat) : Int) := by rw [sg_td (by omega)]; omega
  have key : ∀ (n p : Nat) (M : mv_Mem), p + n = n48 → (∀ a i, ¬ (a = 42 ∧ 48 * o ≤ i ∧ i < 48 * o + 48) → M a i = M0 a i) → (∀ k, sg_ok S k → sg_pl S k < p → M 42 (48 * o + sg_pl S k) = sg_bid S o k) →
      mv_Run G 16 87 4749 6 [(0, .inr (.inr 6)), (1, .inl (o : Int)), (2, .inl ((o / 3 : Nat) : Int)), (3, .inl (p : Int))] [] (mh l) M (mv_qv (mh l) F) := by
    intro n
    induction n with
    | zero =>
      intro p M hpn hfr hd
      refine vr_X1_reckonOffer_6 ?_
      have c2 : M 8 2 = (n48 : Int) := ((hfr 8 2 (fun z => by omega)).trans hC.1.2.2.1).trans hn1.symm
      rw [c2, if_pos (by omega)]
      exact mv_qv_i (h M hfr (fun k hk => hd k hk (by have := (sg_pl_lt hw hk).1; omega)))
    | succ n ih =>
      intro p M hpn hfr hd
      refine vr_X1_reckonOffer_6 ?_
      have hCM : sg_C 0 S M := sg_C_fr hC (fun c h1 h2 i => hfr c i (fun z => by omega))
      have hWM : sg_W S M := sg_W_fr hW (fun c h1 h2 _ i => hfr c i (fun z => by omega))
      have c2 : M 8 2 = (n48 : Int) := hCM.1.2.2.1.trans hn1.symm
      obtain ⟨k, hk, rfl⟩ := sg_pl_sur hw (p := p) (by omega)
      have hp := (sg_pl_lt hw hk).2
      have cs : M 10 (sg_pl S k) = S 1 k := (hCM.2.1 k hk).2.1
      rw [c2, if_neg (by omega), show Int.toNat ((o : Int) * 48 + (sg_pl S k : Int)) = 48 * o + sg_pl S k by omega, Int.toNat_natCast]
      have hs := sg_s1 hw hk
      have hwo := sg_wo_b hw hm hk
      have hcr := sg_cr_b hw (show o / 3 < 6 by omega) hs
      have hwt := sg_wt_b hw ho hs
      have hbb := sg_bid_b hw ho hm hk
      have h4 : 0 ≤ sg_cr S (o / 3) (S 1 k) * sg_wo S o k := Int.mul_nonneg hcr.1 hwo.1
      have h5 : sg_cr S (o / 3) (S 1 k) * sg_wo S o k ≤ 98010 * 2376 := Int.mul_le_mul hcr.2 hwo.2 hwo.1 (by omega)
      have nxt : mv_Run G 16 87 4749 6 [(0, .inr (.inr 6)), (1, .inl (o : Int)), (2, .inl ((o / 3 : Nat) : Int)), (3, .inl ((sg_pl S k : Int) + 1))] [] (mh l) (mv_up M 42 (48 * o + sg_pl S k) (sg_bid S o k)) (mv_qv (mh l) F) := by
        refine ih (sg_pl S k + 1) _ (by omega) (fun a i hai => by rw [mv_up_n (fun z => hai ⟨z.1, by omega, by omega⟩)]; exact hfr a i hai) (fun j hj hlt => ?_)
        by_cases q : j = k
        · rw [q, mv_up_s]
        · rw [mv_up_n (fun z => q (sg_pl_inj hw hj hk (by omega)))]
          have : sg_pl S j ≠ sg_pl S k := fun z => q (sg_pl_inj hw hj hk z)
          exact hd j hj (by omega)
      refine cl_wayOf hw hCM hWM ho hm hk (cl_canGo hCM (by omega) (fun hg => ?_) (fun hg => ?_))
      · rw [if_neg (by decide), cs]
        refine ⟨by omega, cl_payAtHome hw hCM ho hs (cl_carriage hw hCM (by omega) hs ?_)⟩
        have e : sg_bid S o k = sg_wt S o (S 1 k) - sg_cr S (o / 3) (S 1 k) * sg_wo S o k := sg_if_y hg
        rw [← e]
        exact ⟨by omega, by omega, by omega, by omega, by omega, by omega, nxt⟩
      · rw [if_pos rfl]
        have e : sg_bid S o k = 0 := sg_if_n hg
        rw [e] at nxt
        exact ⟨by omega, by omega, by omega, by omega, nxt⟩
  refine vw_X1_reckonOffer ?_
  rw [e1]
  exact ⟨⟨by decide, by omega⟩, key n48 0 M0 (by omega) (fun _ _ _ => rfl) (fun _ _ hlt => by omega)⟩
theorem cl_reckonBids (hw : sg_wf S) {M0 : mv_Mem} {F : mv_Mem → Prop} (hC : sg_C 0 S M0) (hW : sg_W S M0)
    (h : ∀ M, (∀ a i, a ≠ 42 → a ≠ 43 → M a i = M0 a i) → sg_Bd S M → sg_Tk S M → F M) :
    mv_Wp G 15 [.inr (.inr 6)] (mh l) M0 (mv_qv (mh l) F) := by
  obtain ⟨n48, hn1, hn2⟩ := sg_n48 hw
  have hu := sg_nu hw
  have key2 : ∀ (n p : Nat) (M : mv_Mem), p + n = n48 → (∀ a i, a ≠ 42 → a ≠ 43 → M a i = M0 a i) → sg_Bd S M → (∀ k, sg_ok S k → sg_pl S k < p → M 43 (sg_pl S k) = sg_tk S k) →
      mv_Run G 15 87 4749 41 [(0, .inr (.inr 6)), (1, .inl (p : Int))] [] (mh l) M (mv_qv (mh l) F) := by
    intro n
    induction n with
    | zero =>
      intro p M hpn hfr hB hd
      refine vr_X1_reckonBids_41 ?_
      have c2 : M 8 2 = (n48 : Int) := ((hfr 8 2 (by decide) (by decide)).trans hC.1.2.2.1).trans hn1.symm
      rw [c2, if_pos (by omega)]
      exact mv_qv_i (h M hfr hB (fun k hk => hd k hk (by have := (sg_pl_lt hw hk).1; omega)))
    | succ n ih =>
      intro p M hpn hfr hB hd
      refine vr_X1_reckonBids_41 ?_
      have hCM : sg_C 0 S M := sg_C_fr hC (fun c h1 h2 i => hfr c i (by omega) (by omega))
      have c2 : M 8 2 = (n48 : Int) := hCM.1.2.2.1.trans hn1.symm
      obtain ⟨k, hk, rfl⟩ := sg_pl_sur hw (p := p) (by omega)
      have hp := (sg_pl_lt hw hk).2
      rw [c2, if_neg (by omega), Int.toNat_natCast]
      refine cl_takerOf hw hCM hB hk ⟨by omega, by omega, ih (sg_pl S k + 1) _ (by omega) (fun a i a1 a2 => by rw [mv_up_n (fun z => a2 z.1)]; exact hfr a i a1 a2) (fun o j h1 h2 h3 => by rw [mv_up_n (fun z => by omega)]; exact hB o j h1 h2 h3) (fun j hj hlt => ?_)⟩
      by_cases q : j = k
      · rw [q, mv_up_s]
      · have : sg_pl S j ≠ sg_pl S k := fun z => q (sg_pl_inj hw hj hk z)
        rw [mv_up_n (fun z => this z.2)]
        exact hd j hj (by omega)
  have key : ∀ (n o : Nat) (M : mv_Mem), ((o + n : Nat) : Int) = 3 * S 0 3 → (∀ a i, a ≠ 42 → M a i = M0 a i) → (∀ j k : Nat, j < o → ((j % 3 : Nat) : Int) < S 0 2 → sg_ok S k → M 42 (48 * j + sg_pl S k) = sg_bid S j k) →
      mv_Run G 15 87 4749 2 [(0, .inr (.inr 6)), (1, .inl (o : Int))] [] (mh l) M (mv_qv (mh l) F) := by
    intro n
    induction n with
    | zero =>
      intro o M hon hfr hd
      refine vr_X1_reckonBids_2 ?_
      have c1 : M 17 0 = S 0 3 := (hfr 17 0 (by decide)).trans hC.2.2.2.2.1.1
      rw [c1, if_pos (by omega)]
      exact ⟨by omega, key2 n48 0 M (by omega) (fun a i a1 _ => hfr a i a1) (fun j k h1 h2 h3 => hd j k (by omega) h2 h3) (fun _ _ hlt => by omega)⟩
    | succ n ih =>
      intro o M hon hfr hd
      refine vr_X1_reckonBids_2 ?_
      have hCM : sg_C 0 S M := sg_C_fr hC (fun c h1 h2 i => hfr c i (by omega))
      have hWM : sg_W S M := sg_W_fr hW (fun c h1 h2 _ i => hfr c i (by omega))
      have c1 : M 17 0 = S 0 3 := hCM.2.2.2.2.1.1
      have c2 : M 8 4 = S 0 2 := hCM.1.2.2.2.2
      have e2 : Int.tmod (o : Int) 3 = ((o % 3 : Nat) : Int) := by rw [sg_tm (by omega)]; omega
      rw [c1, c2, if_neg (by omega), e2]
      refine ⟨by omega, by decide, ?_⟩
      split
      · rename_i q
        exact ⟨by omega, ih (o + 1) M (by omega) hfr (fun j k hj h2 h3 => hd j k (by
          rcases Nat.lt_or_ge j o with z | z
          · exact z
          · exfalso
            have : j = o := by omega
            subst this
            omega) h2 h3)⟩
      · rename_i q
        refine cl_reckonOffer hw hCM hWM (by omega) (by omega) (fun M1 h1 h2 => ⟨by omega, ih (o + 1) M1 (by omega) (fun a i a1 => by rw [h1 a i (fun z => a1 z.1)]; exact hfr a i a1) (fun j k hj hm hk => ?_)⟩)
        by_cases z : j = o
        · rw [z]
          exact h2 k hk
        · have hp := (sg_pl_lt hw hk).2
          rw [h1 42 _ (fun y => by omega)]
          exact hd j k (by omega) hm hk
  refine vw_X1_reckonBids ?_
  exact key (3 * (S 0 3).toNat) 0 M0 (by omega) (fun _ _ _ => rfl) (fun j k hj => by omega)
end BI
