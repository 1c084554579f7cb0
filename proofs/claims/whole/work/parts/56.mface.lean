/-! THE MODEL's CALLS: plans, the tape -/
theorem sg_lshrn {x : Int} (hx : mv_R64 x) (n : Nat) (y : Int) (h : (Int64.ofInt x >>> ((Int32.ofInt y).toInt64 &&& 63)).toBitVec = (BitVec.ofInt 64 x).sshiftRight n) : mv_lshr x y = x / 2 ^ n := by
  show ((Int64.ofInt x >>> ((Int32.ofInt y).toInt64 &&& 63)).toBitVec).toInt = _
  rw [h, BitVec.toInt_sshiftRight, BitVec.toInt_ofInt, Int.shiftRight_eq_div_pow]
  have e : x.bmod (2 ^ 64) = x := by
    apply Int.bmod_eq_of_le <;> omega
  rw [e]
  norm_cast
theorem sg_lshr_by {b : Int} (hb : mv_R64 b) {k : Nat} (hk : k < 8) : mv_land (mv_lshr b (8 * (k : Int))) 255 = sg_by b k := by
  unfold sg_by
  rcases (show k = 0 ∨ k = 1 ∨ k = 2 ∨ k = 3 ∨ k = 4 ∨ k = 5 ∨ k = 6 ∨ k = 7 by omega) with rfl | rfl | rfl | rfl | rfl | rfl | rfl | rfl
  · rw [show (8 * ((0 : Nat) : Int)) = 0 by decide, sg_lshrn hb 0 0 rfl, show (2 : Int) ^ 0 = 1 by decide, show (256 : Int) ^ 0 = 1 by decide, sg_land255 (by omega)]
  · rw [show (8 * ((1 : Nat) : Int)) = 8 by decide, sg_lshrn hb 8 8 rfl, show (2 : Int) ^ 8 = 256 by decide, show (256 : Int) ^ 1 = 256 by decide, sg_land255 (by omega)]
  · rw [show (8 * ((2 : Nat) : Int)) = 16 by decide, sg_lshrn hb 16 16 rfl, show (2 : Int) ^ 16 = 65536 by decide, show (256 : Int) ^ 2 = 65536 by decide, sg_land255 (by omega)]
  · rw [show (8 * ((3 : Nat) : Int)) = 24 by decide, sg_lshrn hb 24 24 rfl, show (2 : Int) ^ 24 = 16777216 by decide, show (256 : Int) ^ 3 = 16777216 by decide, sg_land255 (by omega)]
  · rw [show (8 * ((4 : Nat) : Int)) = 32 by decide, sg_lshrn hb 32 32 rfl, show (2 : Int) ^ 32 = 4294967296 by decide, show (256 : Int) ^ 4 = 4294967296 by decide, sg_land255 (by omega)]
  · rw [show (8 * ((5 : Nat) : Int)) = 40 by decide, sg_lshrn hb 40 40 rfl, show (2 : Int) ^ 40 = 1099511627776 by decide, show (256 : Int) ^ 5 = 1099511627776 by decide, sg_land255 (by omega)]
  · rw [show (8 * ((6 : Nat) : Int)) = 48 by decide, sg_lshrn hb 48 48 rfl, show (2 : Int) ^ 48 = 281474976710656 by decide, show (256 : Int) ^ 6 = 281474976710656 by decide, sg_land255 (by omega)]
  · rw [show (8 * ((7 : Nat) : Int)) = 56 by decide, sg_lshrn hb 56 56 rfl, show (2 : Int) ^ 56 = 72057594037927936 by decide, show (256 : Int) ^ 7 = 72057594037927936 by decide, sg_land255 (by omega)]
section ML
variable {S : mv_Mem} {G : mv_G} {l c : Nat} {M : mv_Mem} {F : Int → mv_Mem → Prop}
theorem ma_plan (hS : sg_oo c S) (hc : c ≤ 100000) (h : sg_MM S M) {a b e f : Int} (ha : mv_R32 a) (hb : mv_R32 b) (hF : ∀ M', sg_Y M M' → sg_MM (sa_plan S a b e f).2 M' → F (sa_plan S a b e f).1 M') : mv_Wp G 201 [.inr (.inr 88), .inl a, .inl b, .inl e, .inl f] (mh l) M (mv_qi (mh l) F) := by
  have hw := hS.1
  have hM := h.1
  have hR := h.2.1
  have hp8 := hw.1.2.2.2.2.2.1
  have c55 : M 88 55 = S 0 5 := hM.1.2.2.2.2.2
  unfold sa_plan at hF
  refine vw_X12_plan (md_acreOf hw hM ha (fun q => md_acreOf hw hM hb (fun q2 => ?_) (fun k' hk' k48' e' => ?_)) (fun k hk k48 ek => md_acreOf hw hM hb (fun q2 => ?_) (fun k' hk' k48' ek' => ?_)))
  · rw [if_pos (Or.inl q)] at hF
    rw [if_pos (by decide)]
    exact md_no2 hS hc h _ (by decide) hF
  · rw [if_pos (Or.inl q)] at hF
    rw [if_pos (by decide)]
    exact md_no2 hS hc h _ (by decide) hF
  · rw [if_pos (Or.inr (Or.inl q2))] at hF
    rw [if_neg (by omega), if_pos (by decide)]
    exact md_no2 hS hc h _ (by decide) hF
  · rw [if_neg (by omega), if_neg (by omega)]
    rw [ek, ek', Int.toNat_natCast, Int.toNat_natCast] at hF
    refine md_areBeside k48 k48' (fun q => ?_) (fun q => ?_)
    · rw [if_pos (Or.inr (Or.inr q))] at hF
      rw [if_pos rfl]
      exact md_no2 hS hc h _ (by decide) hF
    · rw [if_neg (by omega)] at hF
      rw [if_neg (by decide)]
      have dr := sg_dir_r k k'
      obtain ⟨d, ed⟩ := sg_nat (show 0 ≤ sg_dir k k' by omega)
      have hd : d < 4 := by omega
      obtain ⟨hh, hn⟩ := sg_dir_y hw hk hk' hd ed
      rw [ed, Int.toNat_natCast] at hF
      subst hn
      have bad : ∀ r : Int, r ≠ 0 → (-6 ≤ r ∧ r ≤ -1) → (∀ M', sg_Y M M' → sg_MM (sg_no S r) M' → F r M') → mv_Run G 201 136 7420 109 [(0, .inr (.inr 88)), (3, .inl e), (4, .inl f), (5, .inl (k : Int)), (6, .inl (sg_nx k d : Int)), (7, .inl r)] [] (mh l) M (mv_qi (mh l) F) := by
        intro r h0 hr hf
        refine vr_X12_plan_109 ?_
        rw [if_neg h0]
        exact md_no2 hS hc h r hr hf
      refine md_isIn (fun q2 => ?_) (fun q2 => ?_)
      · rw [if_neg (by omega)] at hF
        rw [if_neg (by decide)]
        refine md_outOf ?_
        unfold sg_un
        by_cases z1 : f < 0
        · rw [if_pos z1] at hF
          rw [if_pos z1, if_neg (by decide)]
          refine vr_X12_plan_89 ?_
          rw [if_neg (by decide)]
          exact bad _ (by decide) (by decide) hF
        rw [if_neg z1] at hF
        rw [if_neg z1]
        by_cases z2 : 99999 < f
        · rw [if_pos (Or.inl z2)] at hF
          rw [if_pos z2, if_neg (by decide)]
          refine vr_X12_plan_89 ?_
          rw [if_neg (by decide)]
          exact bad _ (by decide) (by decide) hF
        rw [if_neg z2, if_pos rfl, c55]
        by_cases z3 : S 0 5 = 8
        · rw [if_pos (Or.inr (by omega))] at hF
          rw [if_pos z3]
          refine vr_X12_plan_89 ?_
          rw [if_neg (by decide)]
          exact bad _ (by decide) (by decide) hF
        rw [if_neg (by omega)] at hF
        rw [if_neg z3]
        refine vr_X12_plan_89 ?_
        rw [if_pos rfl]
        refine md_roadOf hR.1 hR.2.1 (fun r hr hp => ?_) (fun hno => ?_)
        · obtain ⟨e1, e2, e3⟩ := sg_ra_y hw hR hk hd hh hr hp
          rw [if_pos (by omega)] at hF
          rw [if_neg (by omega)]
          exact bad _ (by decide) (by decide) hF
        · have e1 := sg_ra_n hR hk hd hh hno
          rw [if_neg (fun z => z e1)] at hF
          rw [if_pos (by decide)]
          refine vr_X12_plan_109 ?_
          rw [if_pos rfl]
          simp only [mv_up_c (show (88 : Nat) ≠ 125 by decide), mv_up_c (show (88 : Nat) ≠ 126 by decide), mv_up_c (show (88 : Nat) ≠ 127 by decide), mv_up_c (show (88 : Nat) ≠ 128 by decide), c55, mv_up_s]
          have g : 0 ≤ S 0 5 ∧ S 0 5 < ((8 : Nat) : Int) := by omega
          refine ⟨g, g, g, g, by omega, by omega, ?_⟩
          rw [show S 0 5 + 1 - 1 = S 0 5 by omega]
          refine mv_qi_i (hF _ (fun b i hb => ?_) ?_)
          · rw [mv_up_c (by omega), mv_up_c (by omega), mv_up_c (by omega), mv_up_c (by omega), mv_up_c (by omega)]
          · refine sg_MM_q h (fun b i hb => ?_) (fun b i hb => ?_) ?_ ?_
            · rw [mv_up_n (by omega), mv_up_c (by omega), mv_up_c (by omega), mv_up_c (by omega), mv_up_c (by omega)]
            · dsimp only
              rw [mv_up_c (by omega), mv_up_c (by omega), mv_up_c (by omega), mv_up_c (by omega), mv_up_c (by omega)]
            · obtain ⟨⟨a1, a2, a3, a4, a5, a6⟩, b, b2, c', d', f', g', hhh, pr, j, p⟩ := hM
              refine ⟨⟨a1, a2, a3, a4, a5, ?_⟩, b, b2, c', d', f', g', hhh, pr, j, fun i hi => ?_⟩
              · dsimp only
                rw [mv_up_s, mv_up_s]
              · have hi : (i : Int) < S 0 5 + 1 := hi
                show mv_up M 125 (S 0 5).toNat (k : Int) 125 i = mv_up S 20 (S 0 5).toNat (k : Int) 20 i ∧ mv_up M 126 (S 0 5).toNat (sg_nx k d : Int) 126 i = (sg_nx (mv_up S 20 (S 0 5).toNat (k : Int) 20 i).toNat (mv_up S 21 (S 0 5).toNat (d : Int) 21 i).toNat : Int) ∧ mv_up M 127 (S 0 5).toNat e 127 i = mv_up S 22 (S 0 5).toNat e 22 i ∧ mv_up M 128 (S 0 5).toNat f 128 i = mv_up S 23 (S 0 5).toNat f 23 i
                by_cases y : i = (S 0 5).toNat
                · rw [y]
                  simp only [mv_up_s, Int.toNat_natCast]
                  exact ⟨trivial, trivial, trivial, trivial⟩
                · rw [mv_up_j y, mv_up_j y, mv_up_j y, mv_up_j y, mv_up_j y, mv_up_j y, mv_up_j y, mv_up_j y]
                  exact p i (by omega)
            · have r : sg_Rl S (mv_up (mv_up (mv_up (mv_up (mv_up M 125 (S 0 5).toNat (k : Int)) 126 (S 0 5).toNat (sg_nx k d : Int)) 127 (S 0 5).toNat e) 128 (S 0 5).toNat f) 88 55 (S 0 5 + 1)) (S 0 6).toNat := sg_Rl_fr h.2.1 (by rw [mv_up_j (by decide), mv_up_c (by decide), mv_up_c (by decide), mv_up_c (by decide), mv_up_c (by decide)]) (fun b i h1 h2 => by rw [mv_up_c (by omega), mv_up_c (by omega), mv_up_c (by omega), mv_up_c (by omega), mv_up_c (by omega)])
              exact r
      · rw [if_pos (by omega)] at hF
        rw [if_pos rfl]
        exact md_no2 hS hc h _ (by decide) hF
theorem ma_feed (hS : sg_oo c S) (hc : c ≤ 100000) (h : sg_MM S M) {a b : Int} (ha : mv_R32 a) (hb : mv_R64 b) (hF : ∀ M', sg_Y M M' → sg_MM (sa_feed S a b).2 M' → F (sa_feed S a b).1 M') : mv_Wp G 137 [.inr (.inr 88), .inl a, .inr (.inl b)] (mh l) M (mv_qi (mh l) F) := by
  have hw := hS.1
  have hl := hS.2.1
  have c7 : M 88 7 = S 30 0 := h.2.2.1
  unfold sa_feed at hF
  refine vw_X12_feed (md_outOf ?_)
  unfold sg_un
  by_cases z1 : a < 1
  · rw [if_pos z1] at hF
    rw [if_pos z1, if_neg (by decide), if_neg (by decide)]
    exact md_no2 hS hc h _ (by decide) hF
  rw [if_neg z1] at hF
  rw [if_neg z1]
  by_cases z2 : 8 < a
  · rw [if_pos (Or.inl z2)] at hF
    rw [if_pos z2, if_neg (by decide), if_neg (by decide)]
    exact md_no2 hS hc h _ (by decide) hF
  rw [if_neg z2, if_pos rfl, c7]
  refine ⟨by omega, ?_⟩
  by_cases z3 : S 30 0 + a ≤ 60
  · rw [if_neg (by omega)] at hF
    rw [if_pos z3, if_pos rfl]
    obtain ⟨n, hn⟩ := sg_nat (show 0 ≤ a by omega)
    obtain ⟨len, hlen⟩ := sg_nat hl.1
    subst hn
    have key : ∀ (m k : Nat) (M1 : mv_Mem), k + m = n → (∀ a i, a ≠ 90 → ¬ (a = 88 ∧ i = 7) → M1 a i = M a i) → M1 88 7 = ((len + k : Nat) : Int) → (∀ i, i < len → M1 90 i = S 31 i) → (∀ i, i < k → M1 90 (len + i) = sg_by b i) →
        mv_Run G 137 136 7420 46 [(0, .inr (.inr 88)), (1, .inl (n : Int)), (2, .inr (.inl b)), (5, .inl (k : Int))] [] (mh l) M1 (mv_qi (mh l) F) := by
      intro m
      induction m with
      | zero =>
        intro k M1 hk f1 f2 f3 f4
        refine vr_X12_feed_46 ?_
        have ek : k = n := by omega
        subst ek
        rw [if_pos (Int.le_refl _), f2, show ((len + k : Nat) : Int) = S 30 0 + (k : Int) by omega]
        refine mv_qi_i (hF M1 (fun a i ha => f1 a i (by omega) (by omega)) ?_)
        have hsw : sg_sw S (fun a i => if a = 30 ∧ i = 0 then S 30 0 + (k : Int) else if a = 31 ∧ (S 30 0).toNat ≤ i ∧ i < (S 30 0).toNat + (k : Int).toNat then sg_by b (i - (S 30 0).toNat) else S a i) := fun a i ha => by
          show (if a = 30 ∧ i = 0 then _ else if a = 31 ∧ _ then _ else S a i) = S a i
          rw [if_neg (by omega), if_neg (fun z => by omega)]
        obtain ⟨h1, h1b, h2, h3, h4, h5, h6, h7, h8⟩ := h
        refine ⟨sg_sw_Mo hsw (sg_Mo_fr h1 (fun a i ha => f1 a i (by unfold sg_mc at ha; omega) (by unfold sg_mc at ha; omega))), sg_sw_Rl hsw (sg_Rl_fr h1b (f1 88 17 (by decide) (by decide)) (fun a i a1 a2 => f1 a i (by omega) (by omega))), ?_, fun i hi => ?_, ?_, fun i hi => ?_, fun i hi => ?_, ?_, fun z => ?_⟩
        · show M1 88 7 = S 30 0 + (k : Int)
          omega
        · have hi : (i : Int) < S 30 0 + (k : Int) := hi
          show M1 90 i = (if 31 = 30 ∧ i = 0 then S 30 0 + (k : Int) else if 31 = 31 ∧ (S 30 0).toNat ≤ i ∧ i < (S 30 0).toNat + (k : Int).toNat then sg_by b (i - (S 30 0).toNat) else S 31 i)
          rw [if_neg (fun z => by omega)]
          by_cases q : i < len
          · rw [if_neg (fun z => by omega)]
            exact f3 i q
          · rw [if_pos ⟨rfl, by omega, by omega⟩]
            have := f4 (i - len) (by omega)
            rw [show len + (i - len) = i by omega] at this
            rw [this]
            congr 1
            omega
        · show M1 88 60 = S 32 0
          rw [f1 88 60 (by decide) (by decide)]
          exact h4
        · have hi : (i : Int) < S 32 0 := hi
          show M1 135 i = S 33 i
          rw [f1 135 i (by decide) (by omega)]
          exact h5 i hi
        · show M1 89 i = S 34 i
          rw [f1 89 i (by decide) (by omega)]
          exact h6 i hi
        · show M1 88 62 = S 35 0
          rw [f1 88 62 (by decide) (by decide)]
          exact h7
        · have z : S 35 0 = 1 := z
          have e : sg_kp (fun a i => if a = 30 ∧ i = 0 then S 30 0 + (k : Int) else if a = 31 ∧ (S 30 0).toNat ≤ i ∧ i < (S 30 0).toNat + (k : Int).toNat then sg_by b (i - (S 30 0).toNat) else S a i) = sg_kp S := by
            funext a i
            show (if 40 + a = 30 ∧ i = 0 then _ else if 40 + a = 31 ∧ _ then _ else S (40 + a) i) = S (40 + a) i
            rw [if_neg (by omega), if_neg (fun z => by omega)]
          have r := sg_Ki_fr (h8 z) (fun i => f1 136 i (by decide) (by omega))
          rw [← e] at r
          exact r
      | succ m ih =>
        intro k M1 hk f1 f2 f3 f4
        refine vr_X12_feed_46 ?_
        have hby : 0 ≤ sg_by b k ∧ sg_by b k < 256 := by
          unfold sg_by
          omega
        rw [if_neg (by omega), sg_lshr_by hb (by omega), mv_up_c (show (88 : Nat) ≠ 90 by decide), f2, Int.toNat_natCast]
        refine ⟨by omega, by omega, by omega, by omega, by omega, ih (k + 1) _ (by omega) (fun a i h1 h2 => ?_) ?_ (fun i hi => ?_) (fun i hi => ?_)⟩
        · rw [mv_up_n h2, mv_up_c h1]
          exact f1 a i h1 h2
        · rw [mv_up_s]
          omega
        · rw [mv_up_c (by decide), mv_up_j (by omega)]
          exact f3 i hi
        · rw [mv_up_c (by decide)]
          by_cases y : i = k
          · rw [y, mv_up_s]
          · rw [mv_up_j (by omega)]
            exact f4 i (by omega)
    exact key n 0 M (by omega) (fun _ _ _ _ => rfl) (by omega) (fun i hi => h.2.2.2.1 i (by omega)) (fun i hi => by omega)
  · rw [if_pos (Or.inr (by omega))] at hF
    rw [if_neg z3, if_neg (by decide)]
    exact md_no2 hS hc h _ (by decide) hF
end ML
