/-! THE MODEL's CALLS: roads -/
section MK
variable {S : mv_Mem} {G : mv_G} {l c : Nat} {M : mv_Mem} {F : Int → mv_Mem → Prop}
theorem sg_dir_y (hw : sg_wf S) {k k' d : Nat} (hk : sg_ok S k) (hk' : sg_ok S k') (hd : d < 4) (h : sg_dir k k' = (d : Int)) : sg_has S k d ∧ sg_nx k d = k' := by
  have h1 := (sg_pb_dir hw hk hk' hd).2 h
  by_cases hh : sg_has S k d
  · obtain ⟨e, ho⟩ := sg_pb_yes hw hk hh hd
    exact ⟨hh, sg_pl_inj hw ho hk' (by omega)⟩
  · rw [sg_pb_no hh] at h1
    omega
theorem md_areBeside {k k' : Nat} (hk : k < 48) (hk' : k' < 48) (h0 : sg_dir k k' = -1 → F 0 M) (h1 : sg_dir k k' ≠ -1 → F 1 M) : mv_Wp G 146 [.inl (k : Int), .inl (k' : Int)] (mh l) M (mv_qi (mh l) F) := by
  refine vw_X12_areBeside ?_
  rw [sg_tm (by omega), sg_tm (by omega), sg_td (by omega), sg_td (by omega)]
  have sq : ∀ x : Int, -7 ≤ x → x ≤ 7 → 0 ≤ x * x ∧ x * x ≤ 49 ∧ (x * x = 0 ↔ x = 0) ∧ (x * x = 1 ↔ (x = 1 ∨ x = -1)) := by
    intro x h1 h2
    rcases (show x = -7 ∨ x = -6 ∨ x = -5 ∨ x = -4 ∨ x = -3 ∨ x = -2 ∨ x = -1 ∨ x = 0 ∨ x = 1 ∨ x = 2 ∨ x = 3 ∨ x = 4 ∨ x = 5 ∨ x = 6 ∨ x = 7 by omega) with rfl | rfl | rfl | rfl | rfl | rfl | rfl | rfl | rfl | rfl | rfl | rfl | rfl | rfl | rfl <;> decide
  obtain ⟨a1, a2, a3, a4⟩ := sq ((k : Int) % 8 - (k' : Int) % 8) (by omega) (by omega)
  obtain ⟨b1, b2, b3, b4⟩ := sq ((k : Int) / 8 - (k' : Int) / 8) (by omega) (by omega)
  refine ⟨by decide, by decide, by omega, ⟨by decide, by omega⟩, ⟨by decide, by omega⟩, by omega, by omega, by omega, by omega, ?_⟩
  have e : ((k : Int) % 8 - (k' : Int) % 8) * ((k : Int) % 8 - (k' : Int) % 8) + ((k : Int) / 8 - (k' : Int) / 8) * ((k : Int) / 8 - (k' : Int) / 8) = 1 ↔ sg_dir k k' ≠ -1 := by
    unfold sg_dir
    constructor
    · intro z
      have z2 : (((k : Int) % 8 - (k' : Int) % 8) = 0 ∧ (((k : Int) / 8 - (k' : Int) / 8) = 1 ∨ ((k : Int) / 8 - (k' : Int) / 8) = -1)) ∨ (((k : Int) / 8 - (k' : Int) / 8) = 0 ∧ (((k : Int) % 8 - (k' : Int) % 8) = 1 ∨ ((k : Int) % 8 - (k' : Int) % 8) = -1)) := by omega
      split
      · decide
      · split
        · decide
        · split
          · decide
          · split
            · decide
            · omega
    · intro z
      split at z
      · have := b3.2 (by omega); have := a4.2 (by omega); omega
      · split at z
        · have := b3.2 (by omega); have := a4.2 (by omega); omega
        · split at z
          · have := a3.2 (by omega); have := b4.2 (by omega); omega
          · split at z
            · have := a3.2 (by omega); have := b4.2 (by omega); omega
            · exact absurd rfl z
  split
  · rename_i z
    exact ⟨by decide, mv_qi_i (h1 (e.1 z))⟩
  · rename_i z
    exact ⟨by decide, mv_qi_i (h0 (Classical.byContradiction (fun y => z (e.2 y))))⟩
/-- a road is taken out of the list -/
theorem sg_Rl_del (hw : sg_wf S) {M' : mv_Mem} {n r k d : Nat} (hR : sg_Rl S M n) (hk : sg_ok S k) (hd : d < 4) (hh : sg_has S k d) (hr : r < n) (hp : sg_rp M r k (sg_nx k d)) (h17 : M' 88 17 = ((n - 1 : Nat) : Int))
    (hm : ∀ a i, 96 ≤ a → a ≤ 98 → i < n - 1 → M' a i = M a (if i < r then i else i + 1)) : sg_Rl (sg_lay S k d 0) M' (n - 1) := by
  obtain ⟨b1, b2, b3⟩ := sg_back hw hk hd hh
  obtain ⟨dd1, dd2⟩ := sg_dd_lt hd
  have l0 : ∀ i, (i = 4 * k + d ∨ i = 4 * sg_nx k d + sg_dd d) → sg_lay S k d 0 5 i = 0 := fun i h1 => by
    unfold sg_lay
    by_cases z : i = 4 * sg_nx k d + sg_dd d
    · rw [z, mv_up_s, if_neg (by decide)]
    · rw [mv_up_j z, show i = 4 * k + d by omega, mv_up_s]
  have l2 : ∀ i, i ≠ 4 * k + d → i ≠ 4 * sg_nx k d + sg_dd d → sg_lay S k d 0 5 i = S 5 i := fun i h1 h2 => by
    unfold sg_lay
    rw [mv_up_j h2, mv_up_j h1]
  have fi : ∀ i, i < n - 1 → (if i < r then i else i + 1) < n ∧ (if i < r then i else i + 1) ≠ r := fun i hi => by split <;> omega
  have rp : ∀ i a b, i < n - 1 → (sg_rp M' i a b ↔ sg_rp M (if i < r then i else i + 1) a b) := fun i a b h => by
    unfold sg_rp
    rw [hm 96 i (by decide) (by decide) h, hm 97 i (by decide) (by decide) h]
  refine ⟨by have := hR.1; omega, h17, fun r' hr' => ?_, fun j e hj he hje hne => ?_, fun r1 r2 a b h1 h2 p1 p2 => ?_⟩
  · obtain ⟨f1, f2⟩ := fi r' hr'
    obtain ⟨j, e, hj, he, hje, q1, q2, q3, q4⟩ := hR.2.2.1 _ f1
    have un : ¬ sg_rp M (if r' < r then r' else r' + 1) k (sg_nx k d) := fun z => f2 (hR.2.2.2.2 _ r _ _ f1 hr z hp)
    refine ⟨j, e, hj, he, hje, ?_, ?_, ?_, ?_⟩
    · rw [hm 96 r' (by decide) (by decide) hr']
      exact q1
    · rw [hm 97 r' (by decide) (by decide) hr']
      exact q2
    · rw [hm 98 r' (by decide) (by decide) hr']
      exact q3
    · rw [hm 98 r' (by decide) (by decide) hr', l2 _ (fun y => ?_) (fun y => ?_)]
      · exact q4
      · have y1 : j = k := by omega
        have y2 : e = d := by omega
        subst y1
        subst y2
        exact un (Or.inl ⟨q1, q2⟩)
      · have y1 : j = sg_nx k d := by omega
        have y2 : e = sg_dd d := by omega
        subst y1
        subst y2
        rw [b2] at q2
        exact un (Or.inr ⟨q1, q2⟩)
  · have hj' : sg_ok S j := hj
    have hje' : sg_has S j e := hje
    have n1 : 4 * j + e ≠ 4 * k + d := fun z => hne (l0 _ (Or.inl z))
    have n2 : 4 * j + e ≠ 4 * sg_nx k d + sg_dd d := fun z => hne (l0 _ (Or.inr z))
    rw [l2 _ n1 n2] at hne
    obtain ⟨r0, h0, p0⟩ := hR.2.2.2.1 j e hj' he hje' hne
    have hr0 : r0 ≠ r := by
      intro z
      subst z
      have : (j = k ∧ sg_nx j e = sg_nx k d) ∨ (j = sg_nx k d ∧ sg_nx j e = k) := by
        unfold sg_rp at p0 hp
        omega
      rcases sg_pair hw hj' he hje' hk hd hh this with ⟨y1, y2⟩ | ⟨y1, y2⟩
      · exact n1 (by omega)
      · exact n2 (by omega)
    refine ⟨if r0 < r then r0 else r0 - 1, by split <;> omega, ?_⟩
    rw [rp _ _ _ (by split <;> omega)]
    have e0 : (if (if r0 < r then r0 else r0 - 1) < r then (if r0 < r then r0 else r0 - 1) else (if r0 < r then r0 else r0 - 1) + 1) = r0 := by
      by_cases z : r0 < r
      · rw [if_pos z, if_pos z]
      · rw [if_neg z, if_neg (by omega)]
        omega
    rw [e0]
    exact p0
  · obtain ⟨f1, -⟩ := fi r1 h1
    obtain ⟨f2, -⟩ := fi r2 h2
    have := hR.2.2.2.2 _ _ a b f1 f2 ((rp r1 a b h1).1 p1) ((rp r2 a b h2).1 p2)
    split at this
    · split at this <;> omega
    · split at this <;> omega
theorem md_puts2 (hw : sg_wf S) {F : mv_Mem → Prop} {n k d : Nat} {c : Int} (hR : sg_Rl S M n) (hn20 : n < 20) (hk : sg_ok S k) (hd : d < 4) (hh : sg_has S k d) (hc : 1 ≤ c ∧ c ≤ 3)
    (h : ∀ M' n', ((n' = n ∧ ∃ r, r < n ∧ sg_rp M r k (sg_nx k d)) ∨ (n' = n + 1 ∧ ∀ r, r < n → ¬ sg_rp M r k (sg_nx k d))) → sg_fp2 M M' → sg_Rl (sg_lay S k d c) M' n' → F M') :
    mv_Wp G 148 [.inr (.inr 88), .inl (k : Int), .inl (sg_nx k d : Int), .inl c] (mh l) M (mv_qv (mh l) F) := by
  refine vw_X12_puts (md_roadOf hR.1 hR.2.1 (fun r hr hp => ?_) (fun hno => ?_))
  · rw [if_pos (by omega), Int.toNat_natCast]
    refine ⟨by omega, by omega, by omega, mv_qv_i (h _ n (Or.inl ⟨rfl, r, hr, hp⟩) (fun a i h1 h2 => by rw [mv_up_c (by omega), mv_up_c (by omega), mv_up_c (by omega)]) (sg_Rl_put (n' := n) (r := r) hw hR hk hd hh hc (Nat.le_refl _) hR.1 hr (fun _ => hp) (fun r' h1 h2 => ⟨h1, fun z => h2 (hR.2.2.2.2 r' r _ _ h1 hr z hp)⟩) ?_ ?_ ?_ ?_ (fun a i h1 h2 h3 => ?_)))⟩
    · rw [mv_up_c (by decide), mv_up_c (by decide), mv_up_c (by decide)]
      exact hR.2.1
    · rw [mv_up_c (by decide), mv_up_c (by decide), mv_up_s]
    · rw [mv_up_c (by decide), mv_up_s]
    · rw [mv_up_s]
    · rw [mv_up_n (fun z => h3 z.2), mv_up_n (fun z => h3 z.2), mv_up_n (fun z => h3 z.2)]
  · rw [if_neg (by decide), hR.2.1, Int.toNat_natCast]
    refine ⟨by omega, by omega, by omega, by omega, mv_qv_i (h _ (n + 1) (Or.inr ⟨rfl, hno⟩) (fun a i h1 h2 => by rw [mv_up_c (by omega), mv_up_c (by omega), mv_up_c (by omega), mv_up_n (fun z => h2 ⟨z.1, z.2⟩)]) (sg_Rl_put (n' := n + 1) (r := n) hw hR hk hd hh hc (by omega) (by omega) (by omega) (fun z => by omega) (fun r' h1 h2 => ⟨by omega, hno r' (by omega)⟩) ?_ ?_ ?_ ?_ (fun a i h1 h2 h3 => ?_)))⟩
    · rw [mv_up_c (by decide), mv_up_c (by decide), mv_up_c (by decide), mv_up_s]
      omega
    · rw [mv_up_c (by decide), mv_up_c (by decide), mv_up_s]
    · rw [mv_up_c (by decide), mv_up_s]
    · rw [mv_up_s]
    · rw [mv_up_n (fun z => h3 z.2), mv_up_n (fun z => h3 z.2), mv_up_n (fun z => h3 z.2), mv_up_c (by omega)]
/-- the road told: what the list says -/
theorem sg_ra_y (hw : sg_wf S) {n : Nat} (hR : sg_Rl S M n) {k d r : Nat} (hk : sg_ok S k) (hd : d < 4) (hh : sg_has S k d) (hr : r < n) (hp : sg_rp M r k (sg_nx k d)) : sg_ra S k d = M 98 r ∧ 1 ≤ M 98 r ∧ M 98 r ≤ 3 := by
  obtain ⟨q, h⟩ := sg_Rl_k hw hR hk hd hh hr hp
  refine ⟨?_, q⟩
  unfold sg_ra
  rcases h with ⟨-, h⟩ | ⟨-, h⟩
  · rw [h, if_neg (by omega)]
  · rw [h]
    by_cases z : M 98 r = 3
    · rw [if_pos z, if_pos rfl, z]
    · rw [if_neg z, if_neg (by omega)]
theorem sg_ra_n {n : Nat} (hR : sg_Rl S M n) {k d : Nat} (hk : sg_ok S k) (hd : d < 4) (hh : sg_has S k d) (hno : ∀ r, r < n → ¬ sg_rp M r k (sg_nx k d)) : sg_ra S k d = 0 := by
  have : S 5 (4 * k + d) = 0 := by
    refine Classical.byContradiction (fun z => ?_)
    obtain ⟨r, r1, r2⟩ := hR.2.2.2.1 k d hk hd hh z
    exact hno r r1 r2
  unfold sg_ra
  rw [this, if_neg (by decide)]
theorem sg_MM_rd {M' : mv_Mem} (h : sg_MM S M) {k d : Nat} {v x : Int} (hf : sg_fp2 M M') (hr : sg_Rl (sg_lay S k d v) M' x.toNat) : sg_MM (mv_up (sg_lay S k d v) 0 6 x) M' := by
  have hM := h.1
  have e : ∀ a i, a ≠ 5 → ¬ (a = 0 ∧ i = 6) → (mv_up (sg_lay S k d v) 0 6 x) a i = S a i := fun a i h1 h2 => (mv_up_n (fun z => h2 z)).trans (sg_lay_o h1)
  refine sg_MM_q h (fun a i ha => hf a i (by omega) (by omega)) (fun a i ha => e a i (by omega) (by omega)) ?_ ?_
  · have m1 : sg_Mo (sg_lay S k d v) M' := sg_Mo_c (fun a i ha => sg_lay_o ha) (sg_Mo_fr hM (fun a i ha => hf a i (by unfold sg_mc at ha; omega) (by unfold sg_mc at ha; omega)))
    exact m1
  · show sg_Rl (mv_up (sg_lay S k d v) 0 6 x) M' ((mv_up (sg_lay S k d v) 0 6 x) 0 6).toNat
    rw [mv_up_s]
    have m2 : sg_Rl (mv_up (sg_lay S k d v) 0 6 x) M' x.toNat := hr
    exact m2
theorem ma_road (hS : sg_oo c S) (hc : c ≤ 100000) (h : sg_MM S M) {a b e : Int} (ha : mv_R32 a) (hb : mv_R32 b) (hF : ∀ M', sg_Y M M' → sg_MM (sa_road S a b e).2 M' → F (sa_road S a b e).1 M') : mv_Wp G 149 [.inr (.inr 88), .inl a, .inl b, .inl e] (mh l) M (mv_qi (mh l) F) := by
  have hw := hS.1
  have hM := h.1
  have hR := h.2.1
  have hr12 := hw.1.2.2.2.2.2.2
  unfold sa_road at hF
  refine vw_X12_road (md_acreOf hw hM ha (fun q => md_acreOf hw hM hb (fun q2 => ?_) (fun k' hk' k48' e' => ?_)) (fun k hk k48 ek => md_acreOf hw hM hb (fun q2 => ?_) (fun k' hk' k48' ek' => ?_)))
  · rw [if_pos (Or.inl q)] at hF
    rw [if_pos (by decide)]
    exact md_no2 hS hc h _ (by decide) hF
  · rw [if_pos (Or.inl q)] at hF
    rw [if_pos (by decide)]
    exact md_no2 hS hc h _ (by decide) hF
  · rw [if_pos (Or.inr (Or.inl q2))] at hF
    rw [if_neg (by omega), if_pos (by decide)]
    exact md_no2 hS hc h _ (by decide) hF
  · rw [if_neg (by omega), if_neg (by omega)]
    rw [ek, ek', Int.toNat_natCast, Int.toNat_natCast] at hF
    refine md_areBeside k48 k48' (fun q => ?_) (fun q => ?_)
    · rw [if_pos (Or.inr (Or.inr q))] at hF
      rw [if_pos rfl]
      exact md_no2 hS hc h _ (by decide) hF
    · rw [if_neg (by omega)] at hF
      rw [if_neg (by decide)]
      have dr := sg_dir_r k k'
      obtain ⟨d, ed⟩ := sg_nat (show 0 ≤ sg_dir k k' by omega)
      have hd : d < 4 := by omega
      obtain ⟨hh, hn⟩ := sg_dir_y hw hk hk' hd ed
      rw [ed, Int.toNat_natCast] at hF
      subst hn
      refine md_isIn (fun q2 => ?_) (fun q2 => ?_)
      · rw [if_neg (by omega)] at hF
        rw [if_neg (by decide)]
        refine md_roadOf hR.1 hR.2.1 (fun r hr hp => ?_) (fun hno => ?_)
        · obtain ⟨e1, e2, e3⟩ := sg_ra_y hw hR hk hd hh hr hp
          rw [if_neg (by omega), if_neg (show ¬ sg_ra S k d = 0 by omega)] at hF
          rw [if_pos (by omega), Int.toNat_natCast, ← e1]
          refine ⟨by omega, ?_⟩
          by_cases z : e ≤ 0
          · rw [if_pos z, if_pos z, if_neg (by omega)]
            have ez : e = 0 := by omega
            subst ez
            rw [if_pos rfl] at hF
            -- the list closes up
            have key : ∀ (m q : Nat) (M1 : mv_Mem), q + m + 1 = (S 0 6).toNat → r ≤ q → (∀ a i, ¬ (96 ≤ a ∧ a ≤ 98) → M1 a i = M a i) → (∀ a i, 96 ≤ a → a ≤ 98 → M1 a i = M a (if i < r then i else if i < q then i + 1 else i)) →
                mv_Run G 149 136 7420 137 [(0, .inr (.inr 88)), (7, .inl (sg_ra S k d)), (8, .inl (q : Int))] [] (mh l) M1 (mv_qi (mh l) F) := by
              intro m
              induction m with
              | zero =>
                intro q M1 hq hrq f1 f2
                refine vr_X12_road_137 ?_
                have c17 : M1 88 17 = ((S 0 6).toNat : Int) := (f1 88 17 (by decide)).trans hR.2.1
                rw [c17, if_pos (by omega)]
                refine ⟨by omega, by omega, mv_qi_i (hF _ (fun a i ha => (mv_up_c (by omega)).trans (f1 a i (by omega))) (sg_MM_rd h (fun a i a1 a2 => (mv_up_n (fun z => a2 z)).trans (f1 a i a1)) ?_))⟩
                rw [show (S 0 6 + (0 - 1)).toNat = (S 0 6).toNat - 1 by omega]
                refine sg_Rl_del hw hR hk hd hh hr hp ?_ (fun a i a1 a2 hi => ?_)
                · rw [mv_up_s]
                  omega
                · rw [mv_up_c (by omega), f2 a i a1 a2]
                  by_cases y : i < r
                  · rw [if_pos y, if_pos y]
                  · rw [if_neg y, if_neg y, if_pos (by omega)]
              | succ m ih =>
                intro q M1 hq hrq f1 f2
                refine vr_X12_road_137 ?_
                have c17 : M1 88 17 = ((S 0 6).toNat : Int) := (f1 88 17 (by decide)).trans hR.2.1
                rw [c17, if_neg (by omega), show ((q : Int) + 1).toNat = q + 1 by omega, Int.toNat_natCast, mv_up_c (show (97 : Nat) ≠ 96 by decide), mv_up_c (show (98 : Nat) ≠ 97 by decide), mv_up_c (show (98 : Nat) ≠ 96 by decide)]
                refine ⟨by omega, by omega, by omega, by omega, by omega, by omega, by omega, by omega, by omega, by omega, by omega, ih (q + 1) _ (by omega) (by omega) (fun a i ha => ?_) (fun a i a1 a2 => ?_)⟩
                · rw [mv_up_c (by omega), mv_up_c (by omega), mv_up_c (by omega)]
                  exact f1 a i ha
                · have g : ∀ a', 96 ≤ a' → a' ≤ 98 → M1 a' (q + 1) = M a' (q + 1) := fun a' h1 h2 => by
                    rw [f2 a' _ h1 h2, if_neg (by omega), if_neg (by omega)]
                  have g2 : i ≠ q → M1 a i = M a (if i < r then i else if i < q + 1 then i + 1 else i) := fun y => by
                    rw [f2 a i a1 a2]
                    by_cases y1 : i < r
                    · rw [if_pos y1, if_pos y1]
                    · rw [if_neg y1, if_neg y1]
                      by_cases y2 : i < q
                      · rw [if_pos y2, if_pos (by omega)]
                      · rw [if_neg y2, if_neg (by omega)]
                  have g3 : (if q < r then q else if q < q + 1 then q + 1 else q) = q + 1 := by
                    rw [if_neg (by omega), if_pos (by omega)]
                  rcases (show a = 96 ∨ a = 97 ∨ a = 98 by omega) with rfl | rfl | rfl
                  · rw [mv_up_c (by decide), mv_up_c (by decide)]
                    by_cases y : i = q
                    · rw [y, mv_up_s, g3]
                      exact g 96 (by decide) (by decide)
                    · rw [mv_up_j y]
                      exact g2 y
                  · rw [mv_up_c (by decide)]
                    by_cases y : i = q
                    · rw [y, mv_up_s, g3]
                      exact g 97 (by decide) (by decide)
                    · rw [mv_up_j y, mv_up_c (by decide)]
                      exact g2 y
                  · by_cases y : i = q
                    · rw [y, mv_up_s, g3]
                      exact g 98 (by decide) (by decide)
                    · rw [mv_up_j y, mv_up_c (by decide), mv_up_c (by decide)]
                      exact g2 y
            have hr6 : r + ((S 0 6).toNat - 1 - r) + 1 = (S 0 6).toNat := by omega
            exact key ((S 0 6).toNat - 1 - r) r M hr6 (Nat.le_refl _) (fun _ _ _ => rfl) (fun a i _ _ => by
              by_cases y : i < r
              · rw [if_pos y]
              · rw [if_neg y, if_neg y])
          · rw [if_neg z, if_pos (by omega), if_neg z]
            rw [if_neg (by omega)] at hF
            refine md_puts2 hw hR (by omega) hk hd hh ⟨by omega, by omega⟩ (fun M1 n' hn' f1 r1 => ?_)
            have en : n' = (S 0 6).toNat := by
              rcases hn' with ⟨q, -⟩ | ⟨-, q⟩
              · exact q
              · exact absurd hp (q r hr)
            subst en
            refine mv_qi_i (hF M1 (fun a i ha => f1 a i (by omega) (by omega)) (sg_MM_rd h f1 ?_))
            rw [show S 0 6 + (1 - 1) = S 0 6 by omega]
            exact r1
        · have e1 := sg_ra_n hR hk hd hh hno
          rw [e1] at hF
          rw [if_neg (by decide)]
          by_cases z : e ≤ 0
          · rw [if_pos z, if_pos z, if_pos (by decide)]
            have ez : e = 0 := by omega
            subst ez
            rw [if_neg (fun y => y.2.1 rfl), if_pos rfl] at hF
            refine mv_qi_i (hF M sg_Y_r (sg_MM_rd h (fun _ _ _ _ => rfl) ?_))
            rw [show S 0 6 + (0 - 0) = S 0 6 by omega]
            have s0 : S 5 (4 * k + d) = 0 := by
              refine Classical.byContradiction (fun z => ?_)
              obtain ⟨r, r1, r2⟩ := hR.2.2.2.1 k d hk hd hh z
              exact hno r r1 r2
            have s1 := sg_opp hw hk hd hh
            rw [s0, if_neg (by decide), if_neg (by decide)] at s1
            refine sg_Rl_c (S := S) (fun i => sg_lay_o (by decide)) (fun i => ?_) hR
            unfold sg_lay
            by_cases y : i = 4 * sg_nx k d + sg_dd d
            · rw [y, mv_up_s, if_neg (by decide), s1]
            · rw [mv_up_j y]
              by_cases y2 : i = 4 * k + d
              · rw [y2, mv_up_s, s0]
              · rw [mv_up_j y2]
          · rw [if_neg z, if_neg (by decide), hR.2.1]
            by_cases y : S 0 6 = 12
            · rw [if_pos ⟨rfl, by omega, by omega⟩] at hF
              rw [if_pos (by omega)]
              exact md_no2 hS hc h _ (by decide) hF
            · rw [if_neg (by omega), if_neg (by omega)] at hF
              rw [if_neg (by omega), if_neg z]
              refine md_puts2 hw hR (by omega) hk hd hh ⟨by omega, by omega⟩ (fun M1 n' hn' f1 r1 => ?_)
              have en : n' = (S 0 6).toNat + 1 := by
                rcases hn' with ⟨-, r, h1, h2⟩ | ⟨q, -⟩
                · exact absurd h2 (hno r h1)
                · exact q
              subst en
              refine mv_qi_i (hF M1 (fun a i ha => f1 a i (by omega) (by omega)) (sg_MM_rd h f1 ?_))
              rw [if_pos rfl, show (S 0 6 + (1 - 0)).toNat = (S 0 6).toNat + 1 by omega]
              exact r1
      · rw [if_pos (by omega)] at hF
        rw [if_pos rfl]
        exact md_no2 hS hc h _ (by decide) hF
end MK
