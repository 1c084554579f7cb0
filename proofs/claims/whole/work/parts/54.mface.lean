/-! THE MODEL's CALLS: uses, years, pieces, plans -/
section MJ
variable {S : mv_Mem} {G : mv_G} {l c : Nat} {M : mv_Mem} {F : Int → mv_Mem → Prop}
theorem ma_use (hS : sg_oo c S) (hc : c ≤ 100000) (h : sg_MM S M) {a b d e f : Int} (hF : ∀ M', sg_Y M M' → sg_MM (sa_use S a b d e f).2 M' → F (sa_use S a b d e f).1 M') : mv_Wp G 161 [.inr (.inr 88), .inl a, .inl b, .inl d, .inl e, .inl f] (mh l) M (mv_qi (mh l) F) := by
  have hw := hS.1
  have hM := h.1
  have hu := sg_nu hw
  have c36 : M 88 36 = S 0 3 := hM.1.2.2.2.1
  have bad : ∀ r : Int, r ≠ 0 → (-6 ≤ r ∧ r ≤ -1) → (∀ M', sg_Y M M' → sg_MM (sg_no S r) M' → F r M') → mv_Run G 161 136 7420 86 [(0, .inr (.inr 88)), (1, .inl a), (2, .inl b), (3, .inl d), (4, .inl e), (5, .inl f), (6, .inl r)] [] (mh l) M (mv_qi (mh l) F) := by
    intro r h0 hr hf
    refine vr_X12_use_86 ?_
    rw [if_neg h0]
    exact md_no2 hS hc h r hr hf
  unfold sa_use at hF
  refine vw_X12_use (md_isIn (fun q => ?_) (fun q => ?_))
  · rw [if_neg (by omega)] at hF
    rw [if_neg (by decide)]
    by_cases z1 : b < 0
    · rw [if_pos (Or.inl z1)] at hF
      rw [if_pos z1]
      exact bad _ (by decide) (by decide) hF
    by_cases z2 : d < 0
    · rw [if_pos (Or.inr (Or.inl z2))] at hF
      rw [if_neg z1, if_pos z2]
      exact bad _ (by decide) (by decide) hF
    by_cases z3 : e < 0
    · rw [if_pos (Or.inr (Or.inr (Or.inl z3)))] at hF
      rw [if_neg z1, if_neg z2, if_pos z3]
      exact bad _ (by decide) (by decide) hF
    by_cases z4 : f < 0
    · rw [if_pos (Or.inr (Or.inr (Or.inr z4)))] at hF
      rw [if_neg z1, if_neg z2, if_neg z3, if_neg (by omega)]
      exact bad _ (by decide) (by decide) hF
    rw [if_neg (by omega)] at hF
    rw [if_neg z1, if_neg z2, if_neg z3, if_pos (by omega), c36]
    by_cases y : 99 < b ∨ 99 < d ∨ 9999 < e ∨ 99 < f ∨ 6 ≤ S 0 3
    · rw [if_pos y] at hF
      have bd := bad _ (by decide) (by decide) hF
      split
      · exact bd
      · split
        · exact bd
        · split
          · exact bd
          · split
            · exact bd
            · rw [if_pos (by omega)]
              exact bd
    · rw [if_neg y] at hF
      rw [if_neg (by omega), if_neg (by omega), if_neg (by omega), if_neg (by omega), if_neg (by omega)]
      refine vr_X12_use_86 ?_
      rw [if_pos rfl]
      simp only [mv_up_c (show (88 : Nat) ≠ 105 by decide), mv_up_c (show (88 : Nat) ≠ 106 by decide), mv_up_c (show (88 : Nat) ≠ 107 by decide), mv_up_c (show (88 : Nat) ≠ 108 by decide), mv_up_c (show (88 : Nat) ≠ 109 by decide), c36, mv_up_s]
      have g : 0 ≤ S 0 3 ∧ S 0 3 < ((6 : Nat) : Int) := by omega
      refine ⟨g, g, g, g, g, by omega, by omega, ?_⟩
      rw [show S 0 3 + 1 - 1 = S 0 3 by omega]
      refine mv_qi_i (hF _ (fun b i hb => ?_) ?_)
      · rw [mv_up_c (by omega), mv_up_c (by omega), mv_up_c (by omega), mv_up_c (by omega), mv_up_c (by omega), mv_up_c (by omega)]
      · refine sg_MM_q h (fun b i hb => ?_) (fun b i hb => ?_) ?_ ?_
        · rw [mv_up_n (by omega), mv_up_c (by omega), mv_up_c (by omega), mv_up_c (by omega), mv_up_c (by omega), mv_up_c (by omega)]
        · dsimp only
          rw [mv_up_c (by omega), mv_up_c (by omega), mv_up_c (by omega), mv_up_c (by omega), mv_up_c (by omega), mv_up_c (by omega)]
        · obtain ⟨⟨a1, a2, a3, a4, a5, a6⟩, b, b2, c', d', f', g', hh, pr, j, p⟩ := hM
          refine ⟨⟨a1, a2, a3, ?_, a5, a6⟩, b, b2, c', d', f', fun i hi => ?_, hh, pr, j, p⟩
          · dsimp only
            rw [mv_up_s, mv_up_s]
          · obtain ⟨q1, q2, q3, q4, q5, q6, q7⟩ := g' i hi
            exact ⟨mv_up_sm (M := M) (S := S) (a := 105) (b := 8) q1, mv_up_sm (M := M) (S := S) (a := 106) (b := 9) q2, mv_up_sm (M := M) (S := S) (a := 107) (b := 10) q3, mv_up_sm (M := M) (S := S) (a := 108) (b := 11) q4, mv_up_sm (M := M) (S := S) (a := 109) (b := 12) q5, q6, q7⟩
        · have r : sg_Rl S (mv_up (mv_up (mv_up (mv_up (mv_up (mv_up M 105 (S 0 3).toNat a) 106 (S 0 3).toNat b) 107 (S 0 3).toNat d) 108 (S 0 3).toNat e) 109 (S 0 3).toNat f) 88 36 (S 0 3 + 1)) (S 0 6).toNat := sg_Rl_fr h.2.1 (by rw [mv_up_j (by decide), mv_up_c (by decide), mv_up_c (by decide), mv_up_c (by decide), mv_up_c (by decide), mv_up_c (by decide)]) (fun b i h1 h2 => by rw [mv_up_c (by omega), mv_up_c (by omega), mv_up_c (by omega), mv_up_c (by omega), mv_up_c (by omega), mv_up_c (by omega)])
          exact r
  · rw [if_pos (by omega)] at hF
    rw [if_pos rfl]
    exact md_no2 hS hc h _ (by decide) hF
theorem sg_Mo_12 (hM : sg_Mo S M) {i j : Nat} {v x : Int} : sg_Mo (mv_up (mv_up S 14 i v) 15 j x) (mv_up (mv_up M 111 i v) 112 j x) := by
  obtain ⟨⟨a1, a2, a3, a4, a5, a6⟩, b, b2, c', d', f', g', hh, pr, j', p⟩ := hM
  refine ⟨⟨a1, a2, a3, a4, a5, a6⟩, b, b2, c', d', f', fun i hi => ?_, fun i hi => ?_, pr, j', p⟩
  · obtain ⟨q1, q2, q3, q4, q5, q6, q7⟩ := g' i hi
    exact ⟨q1, q2, q3, q4, q5, q6, mv_up_sm (M := M) (S := S) (a := 112) (b := 15) q7⟩
  · exact mv_up_sm (M := M) (S := S) (a := 111) (b := 14) (hh i hi)
theorem sg_Mo_pc (hM : sg_Mo S M) {i i' j : Nat} {v v' x : Int} : sg_Mo (mv_up (mv_up (mv_up S 17 i v) 18 i' v') 19 j x) (mv_up (mv_up (mv_up M 114 i v) 115 i' v') 116 j x) := by
  obtain ⟨⟨a1, a2, a3, a4, a5, a6⟩, b, b2, c', d', f', g', hh, pr, j', p⟩ := hM
  refine ⟨⟨a1, a2, a3, a4, a5, a6⟩, b, b2, c', d', f', g', hh, fun i hi => ?_, fun i hi => ?_, p⟩
  · exact ⟨(pr i hi).1, mv_up_sm (M := M) (S := S) (a := 116) (b := 19) (pr i hi).2⟩
  · exact ⟨mv_up_sm (M := M) (S := S) (a := 114) (b := 17) (j' i hi).1, mv_up_sm (M := M) (S := S) (a := 115) (b := 18) (j' i hi).2⟩
theorem ma_year (hS : sg_oo c S) (hc : c ≤ 100000) (h : sg_MM S M) {a b : Int} (hF : ∀ M', sg_Y M M' → sg_MM (sa_year S a b).2 M' → F (sa_year S a b).1 M') : mv_Wp G 162 [.inr (.inr 88), .inl a, .inl b] (mh l) M (mv_qi (mh l) F) := by
  have hw := hS.1
  have hM := h.1
  have hu := sg_nu hw
  unfold sa_year at hF
  refine vw_X12_year (md_isUse hM (fun q => ?_) (fun q => ?_))
  · rw [if_neg (fun z => z q)] at hF
    rw [if_neg (by decide)]
    obtain ⟨u, hu2⟩ := sg_nat q.1
    subst hu2
    rw [Int.toNat_natCast] at hF
    have hu6 : u < 6 := by omega
    have c105 : M 105 u = S 8 u := (hM.2.2.2.2.2.2.1 u hu6).1
    have c112 : M 112 u = S 15 u := (hM.2.2.2.2.2.2.1 u hu6).2.2.2.2.2.2
    have h15 : 0 ≤ S 15 u ∧ S 15 u ≤ 6 := hw.2.2.2.2.1.2.2.2.2.2.2.2 u hu6
    rw [Int.toNat_natCast, c105]
    refine ⟨by omega, ?_⟩
    by_cases z : S 8 u = 3
    · rw [if_neg (fun y => y z)] at hF
      rw [if_pos z]
      refine md_outOf ?_
      unfold sg_un
      by_cases z1 : b < -99
      · rw [if_pos z1] at hF
        rw [if_pos z1, if_neg (by decide), if_neg (by decide)]
        exact md_no2 hS hc h _ (by decide) hF
      rw [if_neg z1] at hF
      rw [if_neg z1]
      by_cases z2 : 99 < b
      · rw [if_pos (Or.inl z2)] at hF
        rw [if_pos z2, if_neg (by decide), if_neg (by decide)]
        exact md_no2 hS hc h _ (by decide) hF
      rw [if_neg z2, if_pos rfl, c112]
      refine ⟨by omega, ?_⟩
      by_cases z3 : S 15 u = 6
      · rw [if_pos (Or.inr (by omega))] at hF
        rw [if_pos z3, if_neg (by decide)]
        exact md_no2 hS hc h _ (by decide) hF
      rw [if_neg (by omega)] at hF
      rw [if_neg z3, if_pos rfl, show (6 * (u : Int) + S 15 u).toNat = 6 * u + (S 15 u).toNat by omega, mv_up_c (show (112 : Nat) ≠ 111 by decide), c112, mv_up_s]
      refine ⟨by omega, by omega, by omega, by omega, by omega, by omega, by omega, by omega, mv_qi_i (hF _ (fun b i hb => by rw [mv_up_c (by omega), mv_up_c (by omega)]) (sg_MM_q h (sg_P_t (sg_P_up (by decide)) (sg_P_up (by decide))) (fun b i hb => by dsimp only; rw [mv_up_c (by omega), mv_up_c (by omega)]) (sg_Mo_12 hM) ?_))⟩
      have r : sg_Rl S (mv_up (mv_up M 111 (6 * u + (S 15 u).toNat) b) 112 u (S 15 u + 1)) (S 0 6).toNat := sg_Rl_up (by decide) (sg_Rl_up (by decide) h.2.1)
      exact r
    · rw [if_pos z] at hF
      rw [if_neg z]
      exact md_no2 hS hc h _ (by decide) hF
  · rw [if_pos q] at hF
    rw [if_pos rfl]
    exact md_no2 hS hc h _ (by decide) hF
theorem ma_piece (hS : sg_oo c S) (hc : c ≤ 100000) (h : sg_MM S M) {a b d e : Int} (hF : ∀ M', sg_Y M M' → sg_MM (sa_piece S a b d e).2 M' → F (sa_piece S a b d e).1 M') : mv_Wp G 180 [.inr (.inr 88), .inl a, .inl b, .inl d, .inl e] (mh l) M (mv_qi (mh l) F) := by
  have hw := hS.1
  have hM := h.1
  have hu := sg_nu hw
  have hm3 := hw.1.2.2.1
  have bad : ∀ v r : Int, r ≠ 0 → (-6 ≤ r ∧ r ≤ -1) → (∀ M', sg_Y M M' → sg_MM (sg_no S r) M' → F r M') → mv_Run G 180 136 7420 78 [(0, .inr (.inr 88)), (3, .inl d), (4, .inl e), (5, .inl v), (6, .inl r)] [] (mh l) M (mv_qi (mh l) F) := by
    intro v r h0 hr hf
    refine vr_X12_piece_78 ?_
    rw [if_neg h0]
    exact md_no2 hS hc h r hr hf
  unfold sa_piece at hF
  refine vw_X12_piece (md_isUse hM (fun q => ?_) (fun q => ?_))
  · rw [if_neg (by decide)]
    refine md_isMarket hM (fun q2 => ?_) (fun q2 => ?_)
    · rw [sg_ip_n (fun z => z ⟨q, q2⟩)] at hF
      rw [if_neg (by decide)]
      obtain ⟨u, hu2⟩ := sg_nat q.1
      obtain ⟨m, hm2⟩ := sg_nat q2.1
      subst hu2
      subst hm2
      rw [sg_of_n] at hF
      have ho : 3 * u + m < 18 := by omega
      have c116 : M 116 (3 * u + m) = S 19 (3 * u + m) := (hM.2.2.2.2.2.2.2.2.1 _ ho).2
      have h19 : 0 ≤ S 19 (3 * u + m) ∧ S 19 (3 * u + m) ≤ 6 := hw.2.2.2.2.2.1.2.2.2 _ ho
      rw [show (3 * (u : Int) + (m : Int)) = ((3 * u + m : Nat) : Int) by omega, Int.toNat_natCast, c116]
      generalize 3 * u + m = o at *
      refine ⟨by omega, by omega, ?_⟩
      by_cases z1 : d < 0
      · rw [if_pos (Or.inl z1)] at hF
        rw [if_pos z1]
        exact bad _ _ (by decide) (by decide) hF
      by_cases z2 : e < 0
      · rw [if_pos (Or.inr z2)] at hF
        rw [if_neg z1, if_neg (by omega)]
        exact bad _ _ (by decide) (by decide) hF
      rw [if_neg (by omega)] at hF
      rw [if_neg z1, if_pos (by omega)]
      by_cases z3 : 9999 < d
      · rw [if_pos (Or.inl z3)] at hF
        rw [if_pos z3]
        exact bad _ _ (by decide) (by decide) hF
      by_cases z4 : 999 < e
      · rw [if_pos (Or.inr (Or.inl z4))] at hF
        rw [if_neg z3, if_pos z4]
        exact bad _ _ (by decide) (by decide) hF
      rw [if_neg z3, if_neg z4]
      refine ⟨by omega, ?_⟩
      by_cases z5 : S 19 o = 6
      · rw [if_pos (Or.inr (Or.inr (by omega)))] at hF
        rw [if_pos z5]
        exact bad _ _ (by decide) (by decide) hF
      rw [if_neg (by omega)] at hF
      rw [if_neg z5]
      refine vr_X12_piece_78 ?_
      rw [if_pos rfl]
      simp only [mv_up_c (show (116 : Nat) ≠ 114 by decide), mv_up_c (show (116 : Nat) ≠ 115 by decide), Int.toNat_natCast, c116, mv_up_s]
      rw [show (6 * (o : Int) + S 19 o).toNat = 6 * o + (S 19 o).toNat by omega]
      refine ⟨by omega, by omega, by omega, by omega, by omega, by omega, by omega, by omega, by omega, by omega, by omega, by omega, mv_qi_i (hF _ (fun b i hb => by rw [mv_up_c (by omega), mv_up_c (by omega), mv_up_c (by omega)]) (sg_MM_q h (sg_P_t (sg_P_t (sg_P_up (by decide)) (sg_P_up (by decide))) (sg_P_up (by decide))) (fun b i hb => by dsimp only; rw [mv_up_c (by omega), mv_up_c (by omega), mv_up_c (by omega)]) (sg_Mo_pc hM) ?_))⟩
      have r : sg_Rl S (mv_up (mv_up (mv_up M 114 (6 * o + (S 19 o).toNat) d) 115 (6 * o + (S 19 o).toNat) e) 116 o (S 19 o + 1)) (S 0 6).toNat := sg_Rl_up (by decide) (sg_Rl_up (by decide) (sg_Rl_up (by decide) h.2.1))
      exact r
    · rw [sg_ip_y (fun z => q2 z.2)] at hF
      rw [if_pos rfl]
      exact md_no2 hS hc h _ (by decide) hF
  · rw [sg_ip_y (fun z => q z.1)] at hF
    rw [if_pos rfl]
    exact md_no2 hS hc h _ (by decide) hF
end MJ
