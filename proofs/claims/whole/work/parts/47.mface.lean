/-! THE MODEL's CALLS, the plain ones -/
section MF
variable {S : mv_Mem} {G : mv_G} {l c : Nat} {M : mv_Mem} {F : Int → mv_Mem → Prop}
theorem sg_P_up {a i : Nat} {v : Int} (h : 91 ≤ a ∧ a ≤ 134) : sg_P M (mv_up M a i v) := fun b j hb => mv_up_c (by omega)
theorem sg_Rl_up {a i n : Nat} {v : Int} (h : 99 ≤ a ∨ (91 ≤ a ∧ a ≤ 95)) (hR : sg_Rl S M n) : sg_Rl S (mv_up M a i v) n := sg_Rl_fr hR (mv_up_c (by omega)) (fun b j h1 h2 => mv_up_c (by omega))
theorem ma_step (hS : sg_oo c S) (hc : c ≤ 100000) (h : sg_MM S M) {a b : Int} (hF : ∀ M', sg_Y M M' → sg_MM (sa_step S a b).2 M' → F (sa_step S a b).1 M') : mv_Wp G 150 [.inr (.inr 88), .inl a, .inl b] (mh l) M (mv_qi (mh l) F) := by
  have hM := h.1
  unfold sa_step at hF
  refine vw_X12_step (md_isIn (fun q => ?_) (fun q => ?_))
  · rw [if_neg (by omega)] at hF
    rw [if_neg (by decide)]
    refine md_outOf ?_
    split
    · rename_i z
      rw [if_neg (fun y => y z)] at hF
      have c1 : M 99 a.toNat = S 6 a.toNat := hM.2.2.2.1 _ (by omega)
      rw [c1]
      refine ⟨by omega, by omega, mv_qi_i (hF _ (fun b i hb => mv_up_c (by omega)) (sg_MM_q h (sg_P_up (by decide)) (fun b i hb => mv_up_c (by omega)) ⟨hM.1, hM.2.1, hM.2.2.1, fun i hi => mv_up_sm (hM.2.2.2.1 i hi), hM.2.2.2.2⟩ (sg_Rl_up (S := S) (by decide) h.2.1)))⟩
    · rename_i z
      rw [if_pos z] at hF
      exact md_no2 hS hc h _ (sg_un_r z) hF
  · rw [if_pos (by omega)] at hF
    rw [if_pos rfl]
    exact md_no2 hS hc h _ (by decide) hF
theorem ma_toll (hS : sg_oo c S) (hc : c ≤ 100000) (h : sg_MM S M) {a b : Int} (ha : mv_R32 a) (hF : ∀ M', sg_Y M M' → sg_MM (sa_toll S a b).2 M' → F (sa_toll S a b).1 M') : mv_Wp G 151 [.inr (.inr 88), .inl a, .inl b] (mh l) M (mv_qi (mh l) F) := by
  have hw := hS.1
  have hM := h.1
  unfold sa_toll at hF
  refine vw_X12_toll (md_acreOf hw hM ha (fun q => ?_) (fun k hk k48 e => ?_))
  · rw [if_pos q] at hF
    rw [if_neg (by decide)]
    exact md_no2 hS hc h _ (by decide) hF
  · rw [if_neg (by omega), e, Int.toNat_natCast] at hF
    rw [if_pos (by omega), Int.toNat_natCast]
    refine md_outOf ?_
    split
    · rename_i z
      rw [if_neg (fun y => y z)] at hF
      have c1 : M 92 k = S 2 k := (hM.2.1 k hk).2.1
      rw [c1]
      refine ⟨by omega, by omega, mv_qi_i (hF _ (fun b i hb => mv_up_c (by omega)) (sg_MM_q h (sg_P_up (by decide)) (fun b i hb => mv_up_c (by omega)) ⟨hM.1, fun j hj => ⟨(hM.2.1 j hj).1, mv_up_sm (M := M) (S := S) (hM.2.1 j hj).2.1, (hM.2.1 j hj).2.2.1, (hM.2.1 j hj).2.2.2⟩, hM.2.2.1, hM.2.2.2⟩ (sg_Rl_up (S := S) (by decide) h.2.1)))⟩
    · rename_i z
      rw [if_pos z] at hF
      exact md_no2 hS hc h _ (sg_un_r z) hF
theorem ma_way (hS : sg_oo c S) (hc : c ≤ 100000) (h : sg_MM S M) {a b : Int} (ha : mv_R32 a) (hb : mv_R32 b) (hF : ∀ M', sg_Y M M' → sg_MM (sa_way S a b).2 M' → F (sa_way S a b).1 M') : mv_Wp G 155 [.inr (.inr 88), .inl a, .inl b] (mh l) M (mv_qi (mh l) F) := by
  have hw := hS.1
  have hM := h.1
  unfold sa_way at hF
  refine vw_X12_way (md_acreOf hw hM ha (fun q => md_acreOf hw hM hb (fun q2 => ?_) (fun k hk k48 e => ?_)) (fun k hk k48 e => md_acreOf hw hM hb (fun q2 => ?_) (fun k' hk' k48' e' => ?_)))
  · rw [if_pos (Or.inl q)] at hF
    rw [if_pos (by decide)]
    exact md_no2 hS hc h _ (by decide) hF
  · rw [if_pos (Or.inl q)] at hF
    rw [if_pos (by decide)]
    exact md_no2 hS hc h _ (by decide) hF
  · rw [if_pos (Or.inr q2)] at hF
    rw [if_neg (by omega), if_neg (by decide)]
    exact md_no2 hS hc h _ (by decide) hF
  · rw [if_neg (by omega), e, e', Int.toNat_natCast, Int.toNat_natCast] at hF
    rw [if_neg (by omega), if_pos (by omega)]
    refine md_findWays (wk := false) hw rfl hM h.2.1 hk' (fun M1 f1 w1 => ⟨by omega, ?_⟩)
    rw [Int.toNat_natCast, w1 k hk]
    exact mv_qi_i (hF M1 (fun b i hb => f1 b i (by omega)) (sg_MM_fq h (fun b i _ h1 _ _ _ => f1 b i h1)))
theorem ma_market (hS : sg_oo c S) (hc : c ≤ 100000) (h : sg_MM S M) {a : Int} (ha : mv_R32 a) (hF : ∀ M', sg_Y M M' → sg_MM (sa_market S a).2 M' → F (sa_market S a).1 M') : mv_Wp G 157 [.inr (.inr 88), .inl a] (mh l) M (mv_qi (mh l) F) := by
  have hw := hS.1
  have hM := h.1
  have hm3 := hw.1.2.2.1
  unfold sa_market at hF
  refine vw_X12_market (md_acreOf hw hM ha (fun q => ?_) (fun k hk k48 e => ?_))
  · rw [if_pos q] at hF
    rw [if_neg (by decide)]
    exact md_no2 hS hc h _ (by decide) hF
  · rw [if_neg (by omega), e, Int.toNat_natCast] at hF
    rw [if_pos (by omega)]
    refine md_marketOn hw hM ?_
    have hon : sg_on S k = -9 ∨ 0 ≤ sg_on S k := by
      have : ∀ n m : Nat, sg_mo S k n m = -9 ∨ 0 ≤ sg_mo S k n m := by
        intro n
        induction n with
        | zero => intro m; exact Or.inl rfl
        | succ n ih =>
          intro m
          unfold sg_mo
          split
          · exact Or.inr (by omega)
          · exact ih (m + 1)
      exact this _ _
    have c23 : M 88 23 = S 0 2 := hM.1.2.2.1
    rw [c23]
    split
    · rename_i z
      rw [if_neg (by omega)] at hF
      split
      · rename_i z2
        rw [if_pos (by omega)] at hF
        exact md_no2 hS hc h _ (by decide) hF
      · rename_i z2
        rw [if_neg (by omega)] at hF
        have e1 : (mv_up M 103 (S 0 2).toNat (k : Int)) 88 23 = S 0 2 := (mv_up_c (by decide)).trans c23
        rw [e1, mv_up_s, show S 0 2 + 1 - 1 = S 0 2 by omega]
        refine ⟨by omega, by omega, by omega, mv_qi_i (hF _ (fun b i hb => by rw [mv_up_c (by omega), mv_up_c (by omega)]) ?_)⟩
        refine sg_MM_q h (fun b i hb => ?_) (fun b i hb => (mv_up_c (by omega)).trans (mv_up_c (by omega))) ?_ ?_
        · rw [mv_up_n (by omega), mv_up_c (by omega)]
        · refine ⟨⟨hM.1.1, hM.1.2.1, ?_, hM.1.2.2.2⟩, hM.2.1, hM.2.2.1, hM.2.2.2.1, hM.2.2.2.2.1, fun m hm => ?_, hM.2.2.2.2.2.2⟩
          · show mv_up (mv_up M 103 (S 0 2).toNat (k : Int)) 88 23 (S 0 2 + 1) 88 23 = mv_up (mv_up S 7 (S 0 2).toNat (k : Int)) 0 2 (S 0 2 + 1) 0 2
            rw [mv_up_s, mv_up_s]
          · have hm : (m : Int) < S 0 2 + 1 := hm
            show mv_up M 103 (S 0 2).toNat (k : Int) 103 m = mv_up S 7 (S 0 2).toNat (k : Int) 7 m
            by_cases y : m = (S 0 2).toNat
            · rw [y, mv_up_s, mv_up_s]
            · rw [mv_up_j y, mv_up_j y]
              exact hM.2.2.2.2.2.1 m (by omega)
        · have : sg_Rl S (mv_up (mv_up M 103 (S 0 2).toNat (k : Int)) 88 23 (S 0 2 + 1)) (S 0 6).toNat := sg_Rl_fr h.2.1 (by rw [mv_up_j (by decide), mv_up_c (by decide)]) (fun b i h1 h2 => by rw [mv_up_c (by omega), mv_up_c (by omega)])
          exact this
    · rename_i z
      rw [if_pos (by omega)] at hF
      exact md_no2 hS hc h _ (by decide) hF
end MF
