/-! THE MODEL's CALLS of uses, trade -/
section MG
variable {S : mv_Mem} {G : mv_G} {l c : Nat} {M : mv_Mem} {F : Int → mv_Mem → Prop}
theorem ma_price (hS : sg_oo c S) (hc : c ≤ 100000) (h : sg_MM S M) {a b v : Int} (hF : ∀ M', sg_Y M M' → sg_MM (sa_price S a b v).2 M' → F (sa_price S a b v).1 M') : mv_Wp G 163 [.inr (.inr 88), .inl a, .inl b, .inl v] (mh l) M (mv_qi (mh l) F) := by
  have hw := hS.1
  have hM := h.1
  have hu := sg_nu hw
  have hm3 := hw.1.2.2.1
  unfold sa_price at hF
  refine vw_X12_price (md_isUse hM (fun q => ?_) (fun q => ?_))
  · rw [if_neg (by decide)]
    refine md_isMarket hM (fun q2 => ?_) (fun q2 => ?_)
    · rw [sg_ip_n (fun z => z ⟨q, q2⟩)] at hF
      rw [if_neg (by decide)]
      refine md_outOf ?_
      split
      · rename_i z
        rw [if_neg (fun y => y z)] at hF
        obtain ⟨u, hu2⟩ := sg_nat q.1
        obtain ⟨m, hm2⟩ := sg_nat q2.1
        subst hu2
        subst hm2
        rw [sg_of_n] at hF
        have ho : 3 * u + m < 18 := by omega
        have c1 : M 113 (3 * u + m) = S 16 (3 * u + m) := (hM.2.2.2.2.2.2.2.2.1 _ ho).1
        rw [show Int.toNat (3 * (u : Int) + (m : Int)) = 3 * u + m by omega, c1]
        exact ⟨by omega, by omega, by omega, by omega, by omega, by omega, mv_qi_i (hF _ (fun b i hb => mv_up_c (by omega)) (sg_MM_q h (sg_P_up (by decide)) (fun b i hb => mv_up_c (by omega)) (sg_Mo_16 hM) (sg_Rl_up (S := S) (by decide) h.2.1)))⟩
      · rename_i z
        rw [if_pos z] at hF
        exact md_no2 hS hc h _ (sg_un_r z) hF
    · rw [sg_ip_y (fun z => q2 z.2)] at hF
      rw [if_pos rfl]
      exact md_no2 hS hc h _ (by decide) hF
  · rw [sg_ip_y (fun z => q z.1)] at hF
    rw [if_pos rfl]
    exact md_no2 hS hc h _ (by decide) hF
theorem ma_bid (hS : sg_oo c S) (hc : c ≤ 100000) (h : sg_MM S M) {a b m : Int} (hb : mv_R32 b) (hF : ∀ M', sg_Y M M' → sg_MM (sa_bid S a b m).2 M' → F (sa_bid S a b m).1 M') : mv_Wp G 171 [.inr (.inr 88), .inl a, .inl b, .inl m] (mh l) M (mv_ql (mh l) F) := by
  have hw := hS.1
  have hM := h.1
  have hu := sg_nu hw
  have hm3 := hw.1.2.2.1
  unfold sa_bid at hF
  refine vw_X12_bid (md_acreOf hw hM hb (fun q => md_isUse hM (fun q2 => ?_) (fun q2 => ?_)) (fun k hk k48 e => md_isUse hM (fun q2 => ?_) (fun q2 => ?_)))
  · rw [sg_ip_y (Or.inr q)] at hF
    rw [if_neg (by decide), if_pos (by decide)]
    exact md_noL2 hS hc h _ (by decide) hF
  · rw [sg_ip_y (Or.inr q)] at hF
    rw [if_pos rfl]
    exact md_noL2 hS hc h _ (by decide) hF
  · rw [if_neg (by decide), if_neg (by omega)]
    refine md_isMarket hM (fun q3 => ?_) (fun q3 => ?_)
    · rw [sg_ip_n (fun z => by rcases z with z | z; exact z ⟨q2, q3⟩; omega)] at hF
      rw [if_neg (by decide)]
      obtain ⟨u, hu2⟩ := sg_nat q2.1
      obtain ⟨m', hm2⟩ := sg_nat q3.1
      subst hu2
      subst hm2
      rw [sg_of_n, e, Int.toNat_natCast] at hF
      refine md_findMarketWays hw hM h.2.1 (fun M1 f1 w1 => ?_)
      have hMM1 : sg_MM S M1 := sg_MM_fq h (fun b i _ h1 h2 _ _ => f1 b i h1 h2)
      exact md_bidOf hMM1.1 w1 hw (by omega) hk q3.2 (mv_ql_i (hF M1 (fun b i hb => f1 b i (by omega) (by omega)) hMM1))
    · rw [sg_ip_y (Or.inl (fun z => q3 z.2))] at hF
      rw [if_pos rfl]
      exact md_noL2 hS hc h _ (by decide) hF
  · rw [sg_ip_y (Or.inl (fun z => q2 z.1))] at hF
    rw [if_pos rfl]
    exact md_noL2 hS hc h _ (by decide) hF
theorem ma_goes (hS : sg_oo c S) (hc : c ≤ 100000) (h : sg_MM S M) {a b : Int} (ha : mv_R32 a) (hF : ∀ M', sg_Y M M' → sg_MM (sa_goes S a b).2 M' → F (sa_goes S a b).1 M') : mv_Wp G 174 [.inr (.inr 88), .inl a, .inl b] (mh l) M (mv_qi (mh l) F) := by
  have hw := hS.1
  have hM := h.1
  unfold sa_goes at hF
  refine vw_X12_goes (md_acreOf hw hM ha (fun q => ?_) (fun k hk k48 e => ?_))
  · rw [if_pos q] at hF
    rw [if_neg (by decide)]
    exact md_no2 hS hc h _ (by decide) hF
  · rw [if_neg (by omega), e, Int.toNat_natCast] at hF
    rw [if_pos (by omega)]
    refine md_isIn (fun q => ?_) (fun q => ?_)
    · rw [if_neg (by omega)] at hF
      rw [if_neg (by decide)]
      refine md_found hS h (fun M1 y1 m1 w1 d1 => ?_)
      obtain ⟨f1, f2, -⟩ := (d1 k k48).1 hk
      have hh := hF M1 y1 m1
      dsimp only at hh
      rw [Int.toNat_natCast, f1, f2]
      unfold sg_u3 sg_m3
      split
      · rename_i z
        rw [if_pos z] at hh
        exact ⟨by omega, mv_qi_i hh⟩
      · rename_i z
        rw [if_neg z] at hh
        exact ⟨by omega, mv_qi_i hh⟩
    · rw [if_pos (by omega)] at hF
      rw [if_pos rfl]
      exact md_no2 hS hc h _ (by decide) hF
theorem ma_rent (hS : sg_oo c S) (hc : c ≤ 100000) (h : sg_MM S M) {a : Int} (ha : mv_R32 a) (hF : ∀ M', sg_Y M M' → sg_MM (sa_rent S a).2 M' → F (sa_rent S a).1 M') : mv_Wp G 177 [.inr (.inr 88), .inl a] (mh l) M (mv_ql (mh l) F) := by
  have hw := hS.1
  have hM := h.1
  unfold sa_rent at hF
  refine vw_X12_rent ?_
  by_cases z : a = -1
  · rw [if_pos z] at hF
    rw [if_pos z, if_pos (by decide)]
    refine md_found hS h (fun M1 y1 m1 w1 d1 => ?_)
    rw [if_pos z]
    exact md_allRents hw (sg_Fb_o m1.1 d1) (mv_ql_i (hF M1 y1 m1))
  · rw [if_neg z] at hF
    rw [if_neg z]
    refine md_acreOf hw hM ha (fun q => ?_) (fun k hk k48 e => ?_)
    · rw [if_pos q] at hF
      rw [if_neg (by decide)]
      exact md_noL2 hS hc h _ (by decide) hF
    · rw [if_neg (by omega), e, Int.toNat_natCast] at hF
      rw [if_pos (by omega)]
      refine md_found hS h (fun M1 y1 m1 w1 d1 => ?_)
      rw [if_neg z]
      refine md_rentOf hw (sg_Fb_o m1.1 d1) k48 ?_
      have e : sg_rz S k = sg_rt S k := sg_if_y hk
      rw [e]
      exact mv_ql_i (hF M1 y1 m1)
theorem ma_comes (hS : sg_oo c S) (hc : c ≤ 100000) (h : sg_MM S M) {a b : Int} (hF : ∀ M', sg_Y M M' → sg_MM (sa_comes S a b).2 M' → F (sa_comes S a b).1 M') : mv_Wp G 179 [.inr (.inr 88), .inl a, .inl b] (mh l) M (mv_qi (mh l) F) := by
  have hw := hS.1
  have hM := h.1
  have hu := sg_nu hw
  have hm3 := hw.1.2.2.1
  unfold sa_comes at hF
  refine vw_X12_comes (md_isUse hM (fun q => ?_) (fun q => ?_))
  · rw [if_neg (by decide)]
    refine md_isMarket hM (fun q2 => ?_) (fun q2 => ?_)
    · rw [sg_ip_n (fun z => z ⟨q, q2⟩)] at hF
      rw [if_neg (by decide)]
      obtain ⟨u, hu2⟩ := sg_nat q.1
      obtain ⟨m, hm2⟩ := sg_nat q2.1
      subst hu2
      subst hm2
      rw [sg_of_n] at hF
      exact md_found hS h (fun M1 y1 m1 w1 d1 => md_comesTo hw m1.1 d1 (by omega) (by omega) (mv_qi_i (hF M1 y1 m1)))
    · rw [sg_ip_y (fun z => q2 z.2)] at hF
      rw [if_pos rfl]
      exact md_no2 hS hc h _ (by decide) hF
  · rw [sg_ip_y (fun z => q z.1)] at hF
    rw [if_pos rfl]
    exact md_no2 hS hc h _ (by decide) hF
theorem ma_bought (hS : sg_oo c S) (hc : c ≤ 100000) (h : sg_MM S M) {a b v : Int} (hF : ∀ M', sg_Y M M' → sg_MM (sa_bought S a b v).2 M' → F (sa_bought S a b v).1 M') : mv_Wp G 182 [.inr (.inr 88), .inl a, .inl b, .inl v] (mh l) M (mv_qi (mh l) F) := by
  have hw := hS.1
  have hM := h.1
  have hu := sg_nu hw
  have hm3 := hw.1.2.2.1
  unfold sa_bought at hF
  refine vw_X12_bought (md_isUse hM (fun q => ?_) (fun q => ?_))
  · rw [if_neg (by decide)]
    refine md_isMarket hM (fun q2 => ?_) (fun q2 => ?_)
    · rw [sg_ip_n (fun z => z ⟨q, q2⟩)] at hF
      rw [if_neg (by decide)]
      refine md_outOf ?_
      split
      · rename_i z
        rw [if_neg (fun y => y z)] at hF
        obtain ⟨u, hu2⟩ := sg_nat q.1
        obtain ⟨m, hm2⟩ := sg_nat q2.1
        subst hu2
        subst hm2
        rw [sg_of_n] at hF
        exact md_boughtOf hw hM (by omega) (by omega) (mv_qi_i (hF M sg_Y_r h))
      · rename_i z
        rw [if_pos z] at hF
        exact md_no2 hS hc h _ (sg_un_r z) hF
    · rw [sg_ip_y (fun z => q2 z.2)] at hF
      rw [if_pos rfl]
      exact md_no2 hS hc h _ (by decide) hF
  · rw [sg_ip_y (fun z => q z.1)] at hF
    rw [if_pos rfl]
    exact md_no2 hS hc h _ (by decide) hF
theorem ma_clears (hS : sg_oo c S) (hc : c ≤ 100000) (h : sg_MM S M) {a b : Int} (hF : ∀ M', sg_Y M M' → sg_MM (sa_clears S a b).2 M' → F (sa_clears S a b).1 M') : mv_Wp G 186 [.inr (.inr 88), .inl a, .inl b] (mh l) M (mv_qi (mh l) F) := by
  have hw := hS.1
  have hM := h.1
  have hu := sg_nu hw
  have hm3 := hw.1.2.2.1
  unfold sa_clears at hF
  refine vw_X12_clears (md_isUse hM (fun q => ?_) (fun q => ?_))
  · rw [if_neg (by decide)]
    refine md_isMarket hM (fun q2 => ?_) (fun q2 => ?_)
    · rw [sg_ip_n (fun z => z ⟨q, q2⟩)] at hF
      rw [if_neg (by decide)]
      obtain ⟨u, hu2⟩ := sg_nat q.1
      obtain ⟨m, hm2⟩ := sg_nat q2.1
      subst hu2
      subst hm2
      rw [sg_of_n] at hF
      exact md_clearsOf hw hM h.2.1 q.2 q2.2 (fun M1 f1 => mv_qi_i (hF M1 (fun b i hb => f1 b i (by omega) (by omega) (by omega)) (sg_MM_fq h (fun b i _ h1 h2 h3 _ => f1 b i h1 h2 h3))))
    · rw [sg_ip_y (fun z => q2 z.2)] at hF
      rw [if_pos rfl]
      exact md_no2 hS hc h _ (by decide) hF
  · rw [sg_ip_y (fun z => q z.1)] at hF
    rw [if_pos rfl]
    exact md_no2 hS hc h _ (by decide) hF
theorem ma_out (hS : sg_oo c S) (hc : c ≤ 100000) (h : sg_MM S M) {a : Int} (hF : ∀ M', sg_Y M M' → sg_MM (sa_out S a).2 M' → F (sa_out S a).1 M') : mv_Wp G 198 [.inr (.inr 88), .inl a] (mh l) M (mv_qi (mh l) F) := by
  have hw := hS.1
  have hM := h.1
  have hu := sg_nu hw
  unfold sa_out at hF
  refine vw_X12_out (md_isUse hM (fun q => ?_) (fun q => ?_))
  · rw [if_neg (fun z => z q)] at hF
    rw [if_neg (by decide)]
    obtain ⟨u, hu2⟩ := sg_nat q.1
    subst hu2
    exact md_found hS h (fun M1 y1 m1 w1 d1 => md_outs hw m1.1 w1 d1 (by omega) (hF M1 y1 m1))
  · rw [if_pos q] at hF
    rw [if_pos rfl]
    exact md_no2 hS hc h _ (by decide) hF
theorem ma_borders (hS : sg_oo c S) (h : sg_MM S M) (hF : ∀ M', sg_Y M M' → sg_MM (sa_borders S).2 M' → F (sa_borders S).1 M') : mv_Wp G 200 [.inr (.inr 88)] (mh l) M (mv_qi (mh l) F) :=
  vw_X12_borders (md_found hS h (fun M1 y1 m1 w1 d1 => md_bords hS.1 m1.1 d1 (hF M1 y1 m1)))
theorem ma_rounds (hS : sg_oo c S) (hc : c ≤ 100000) (h : sg_MM S M) {a : Int} (hF : ∀ M', sg_Y M M' → sg_MM (sa_rounds S a).2 M' → F (sa_rounds S a).1 M') : mv_Wp G 188 [.inr (.inr 88), .inl a] (mh l) M (mv_qi (mh l) F) := by
  have hw := hS.1
  unfold sa_rounds at hF
  refine vw_X12_rounds (md_outOf ?_)
  split
  · rename_i z
    rw [if_neg (fun y => y z)] at hF
    have hr := sg_un_0 z
    obtain ⟨N, hN⟩ := sg_nat (show 0 ≤ a by omega)
    subst hN
    rw [Int.toNat_natCast] at hF
    have key : ∀ (n g : Nat) (S' : mv_Mem) (M' : mv_Mem), g + n = N → sg_fr2 M M' → sg_wf S' → sg_Mo S' M' → sg_Rl S' M' (S 0 6).toNat → (∀ M2, sg_fr2 M M2 → sg_Mo (sg_rn S' n).1 M2 → sg_Rl (sg_rn S' n).1 M2 (S 0 6).toNat → F ((g : Int) + (sg_rn S' n).2) M2) →
        mv_Run G 188 136 7420 25 [(0, .inr (.inr 88)), (1, .inl (N : Int)), (3, .inl (g : Int)), (4, .inl 1)] [] (mh l) M' (mv_qi (mh l) F) := by
      intro n
      induction n with
      | zero =>
        intro g S' M' hg hfr hw' ho hR hh
        refine vr_X12_rounds_25 ?_
        rw [if_pos (by omega)]
        have := hh M' hfr ho hR
        have e : (sg_rn S' 0).2 = 0 := rfl
        rw [e, Int.add_zero] at this
        exact mv_qi_i this
      | succ n ih =>
        intro g S' M' hg hfr hw' ho hR hh
        refine vr_X12_rounds_25 ?_
        rw [if_neg (by omega), if_neg (by decide)]
        refine md_goesRound hw' ho hR (fun M1 f1 o1 r1 => ⟨by omega, ?_⟩)
        have hfr1 : sg_fr2 M M1 := fun b i a1 a2 a3 a4 => (f1 b i a1 a2 a3 a4).trans (hfr b i a1 a2 a3 a4)
        have e : sg_rn S' (n + 1) = (if (sg_rd S').2 = 0 then ((sg_rd S').1, 1) else ((sg_rn (sg_rd S').1 n).1, (sg_rn (sg_rd S').1 n).2 + 1)) := rfl
        rw [e] at hh
        by_cases y : (sg_rd S').2 = 0
        · rw [if_pos y] at hh
          rw [y]
          refine vr_X12_rounds_25 ?_
          have fin := hh M1 hfr1 o1 r1
          dsimp only at fin
          split
          · exact mv_qi_i fin
          · rw [if_pos rfl]
            exact mv_qi_i fin
        · rw [if_neg y] at hh
          have y1 : (sg_rd S').2 = 1 := by
            rcases sg_ro_01 S' (3 * (S' 0 3).toNat) with t | t
            · exact absurd t y
            · exact t
          rw [y1]
          exact ih (g + 1) (sg_rd S').1 M1 (by omega) hfr1 (sg_rd_wf hw') o1 r1 (fun M2 a1 a2 a3 => by
            have := hh M2 a1 a2 a3
            dsimp only at this
            rw [show (((g + 1 : Nat)) : Int) + (sg_rn (sg_rd S').1 n).2 = (g : Int) + ((sg_rn (sg_rd S').1 n).2 + 1) by omega]
            exact this)
    refine key N 0 S M (by omega) (fun _ _ _ _ _ _ => rfl) hw h.1 h.2.1 (fun M2 f2 o2 r2 => ?_)
    have e0 : (sg_rn S N).1 0 6 = S 0 6 := sg_rn_pq N S 0 6 (by decide)
    have := hF M2 (fun b i hb => f2 b i (by omega) (by omega) (by omega) (by omega)) (sg_MM_q h (fun b i hb => f2 b i (by omega) (by omega) (by omega) (by omega)) (fun b i hb => sg_rn_pq N S b i (by omega)) o2 (by dsimp only; rw [e0]; exact r2))
    rw [show ((0 : Nat) : Int) + (sg_rn S N).2 = (sg_rn S N).2 by omega]
    exact this
  · rename_i z
    rw [if_pos z] at hF
    exact md_no2 hS hc h _ (sg_un_r z) hF
end MG
