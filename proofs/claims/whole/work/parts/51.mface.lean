/-! THE MODEL's CALLS: losers, the best set, the judge -/
section MJ
variable {S : mv_Mem} {G : mv_G} {l c : Nat} {M : mv_Mem} {F : Int → mv_Mem → Prop}
theorem ma_losers (hS : sg_oo c S) (hc : c ≤ 100000) (h : sg_MM S M) {a : Int} (hF : ∀ M', sg_Y M M' → sg_MM (sa_losers S a).2 M' → F (sa_losers S a).1 M') : mv_Wp G 208 [.inr (.inr 88), .inl a] (mh l) M (mv_qi (mh l) F) := by
  have hw := hS.1
  have hM := h.1
  have hp8 := hw.1.2.2.2.2.2.1
  have hr12 := hw.1.2.2.2.2.2.2
  unfold sa_losers at hF
  refine vw_X12_losers (md_isPlan hM (fun q => ?_) (fun q => ?_))
  · rw [if_neg (by decide)]
    obtain ⟨p, hp⟩ := sg_nat q.1
    subst hp
    have hup : sg_up S (p : Int) = sg_if (sg_bu S p) (-3) 0 := by
      unfold sg_up
      rw [if_neg (by omega), Int.toNat_natCast]
    refine md_isTaken hw hM h.2.1 q.2 (fun z => ?_) (fun z => ?_)
    · rw [hup, sg_if_y z, if_pos (by decide)] at hF
      rw [if_neg (by decide)]
      exact md_no2 hS hc h _ (by decide) hF
    · rw [hup, sg_if_n z, if_neg (by decide), Int.toNat_natCast] at hF
      rw [if_pos rfl]
      have h2p := sg_p2 (p := p) (by omega)
      refine md_found hS h (fun M1 y1 m1 w1 d1 => ?_)
      have hFb := sg_Fb_o m1.1 d1
      have hw2 := sg_wi_wf hw (2 ^ p)
      have ok2 : ∀ k, sg_ok (sg_wi S (2 ^ p)) k ↔ sg_ok S k := fun k => sg_ok_bl
      have hbd := fun n => sg_fo_b (S := S) (f := fun k x => if sg_rt (sg_wi S (2 ^ p)) k < sg_rt S k then x + 1 else x) (a := 0) (b := 1) (by omega) (fun k x hk => by split <;> omega) n
      have key2 : ∀ M2 : mv_Mem, sg_Y M1 M2 → sg_MM S M2 → sg_Fb (sg_wi S (2 ^ p)) M2 → (∀ k, k < 48 → M2 132 k = sg_rz S k) → ∀ (n k : Nat), k + n = 48 → mv_Run G 208 136 7420 69 [(0, .inr (.inr 88)), (2, .inl (sg_fo S (fun k x => if sg_rt (sg_wi S (2 ^ p)) k < sg_rt S k then x + 1 else x) 0 k)), (3, .inl (k : Int))] [] (mh l) M2 (mv_qi (mh l) F) := by
        intro M2 y2 m2 b2 h132 n
        induction n with
        | zero =>
          intro k hk
          refine vr_X12_losers_69 ?_
          rw [if_pos (by omega), show k = 48 by omega]
          exact mv_qi_i (hF M2 (sg_Y_t y1 y2) m2)
        | succ n ih =>
          intro k hk
          refine vr_X12_losers_69 ?_
          have h1 := hbd k
          have K := ih (k + 1) (by omega)
          rw [if_neg (by omega)]
          refine md_rentOf hw2 b2 (by omega) ?_
          simp only [mv_cmp_ge]
          rw [Int.toNat_natCast, h132 k (by omega)]
          refine ⟨by omega, ?_⟩
          by_cases hok : sg_ok S k
          · rw [sg_fo_s hok] at K
            have e1 : sg_rz S k = sg_rt S k := sg_if_y hok
            have e2 : sg_rz (sg_wi S (2 ^ p)) k = sg_rt (sg_wi S (2 ^ p)) k := sg_if_y ((ok2 k).2 hok)
            rw [e1, e2]
            split
            · rename_i y
              rw [if_neg (by omega)] at K
              rw [Int.add_zero]
              exact ⟨by omega, by omega, K⟩
            · rename_i y
              rw [if_pos (by omega)] at K
              exact ⟨by omega, by omega, K⟩
          · rw [sg_fo_n hok] at K
            have e1 : sg_rz S k = 0 := sg_if_n hok
            have e2 : sg_rz (sg_wi S (2 ^ p)) k = 0 := sg_if_n (fun y => hok ((ok2 k).1 y))
            rw [e1, e2, if_pos (by decide), Int.add_zero]
            exact ⟨by omega, by omega, K⟩
      have key : ∀ (n k : Nat) (M2 : mv_Mem), k + n = 48 → (∀ b i, b ≠ 132 → M2 b i = M1 b i) → (∀ j, j < k → M2 132 j = sg_rz S j) → mv_Run G 208 136 7420 35 [(0, .inr (.inr 88)), (1, .inl (p : Int)), (2, .inl (k : Int))] [] (mh l) M2 (mv_qi (mh l) F) := by
        intro n
        induction n with
        | zero =>
          intro k M2 hk hfr hd
          refine vr_X12_losers_35 ?_
          have m2 : sg_MM S M2 := sg_MM_fq m1 (fun b i _ _ _ _ h4 => hfr b i (by omega))
          rw [if_pos (by omega), sg_shl (by omega)]
          refine md_findsWith hw m2.1 m2.2.1 (by omega) h2p (fun M3 f3 o3 r3 b3 => ?_)
          exact key2 M3 (fun b i hb => (sg_fw_Y f3 b i hb).trans (hfr b i (by omega))) (sg_MM_fw m2 f3 o3 r3) b3 (fun j hj => (f3 132 j (by decide) (by decide) (by decide) (by decide) (by decide)).trans (hd j (by omega))) 48 0 (by omega)
        | succ n ih =>
          intro k M2 hk hfr hd
          refine vr_X12_losers_35 ?_
          rw [if_neg (by omega)]
          have b2 : sg_Fb S M2 := ⟨(hfr 88 37 (by decide)).trans hFb.1, fun j hj => by rw [hfr 119 j (by decide)]; exact hFb.2 j hj⟩
          refine md_rentOf hw b2 (by omega) ⟨by omega, by omega, ih (k + 1) _ (by omega) (fun b i hb => by rw [mv_up_c hb]; exact hfr b i hb) (fun j hj => ?_)⟩
          rw [Int.toNat_natCast]
          by_cases y : j = k
          · rw [y, mv_up_s]
          · rw [mv_up_j y]
            exact hd j (by omega)
      exact key 48 0 M1 (by omega) (fun _ _ _ => rfl) (fun j hj => by omega)
  · have hup : sg_up S a = -1 := by
      unfold sg_up
      rw [if_pos (by omega)]
    rw [hup, if_pos (by decide)] at hF
    rw [if_pos rfl]
    exact md_no2 hS hc h _ (by decide) hF
end MJ
