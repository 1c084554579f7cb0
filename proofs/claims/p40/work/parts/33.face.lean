/-! THE CLASS's CALLS of the uses -/
section CB
variable {S : mv_Mem} {G : mv_G} {l c : Nat} {M : mv_Mem} {F : Int → mv_Mem → Prop}
theorem sg_ys_c {S' : mv_Mem} {u : Nat} (h : ∀ i, S' 14 i = S 14 i) : ∀ n, sg_ys S' u n = sg_ys S u n
  | 0 => rfl
  | n + 1 => by
    unfold sg_ys
    rw [sg_ys_c h n, h]
theorem ca_use (hS : sg_oo c S) (hc : c ≤ 100000) (h : sg_CC S M) {a b d e f : Int} (hF : ∀ M', sg_X M M' → sg_CC (sa_use S a b d e f).2 M' → F (sa_use S a b d e f).1 M') : mv_Wp G 94 [.inr (.inr 1), .inl a, .inl b, .inl d, .inl e, .inl f] (mh l) M (mv_qi (mh l) F) := by
  have hw := hS.1
  have hC := h.1.1
  have hu := sg_nu hw
  have c1 : M 17 0 = S 0 3 := hC.2.2.2.2.1.1
  unfold sa_use at hF
  have R : ∀ r : Int, -6 ≤ r ∧ r ≤ -1 → (∀ M', sg_X M M' → sg_CC (sg_no S r) M' → F r M') → mv_Wp G 126 [.inr (.inr 1), .inl r] (mh l) M (mv_qi (mh l) fun x M' => mv_qi (mh l) F (some (.inl x)) (mh l) M') := fun r hr hf => cl_refuse hS hc h hr (fun M' a b => mv_qi_i (hf M' a b))
  refine vw_X11_use ?_
  by_cases c10 : a < 0
  · rw [if_pos (by omega)] at hF
    rw [if_pos c10]
    exact R _ (by decide) hF
  rw [if_neg c10]
  by_cases c11 : a ≤ 5
  rotate_left
  · rw [if_pos (by omega)] at hF
    rw [if_neg c11]
    exact R _ (by decide) hF
  rw [if_pos c11]
  by_cases c12 : b < 0
  · rw [if_neg (by omega), if_pos (by omega)] at hF
    rw [if_pos c12]
    exact R _ (by decide) hF
  rw [if_neg c12]
  by_cases c13 : d < 0
  · rw [if_neg (by omega), if_pos (by omega)] at hF
    rw [if_pos c13]
    exact R _ (by decide) hF
  rw [if_neg c13]
  by_cases c14 : e < 0
  · rw [if_neg (by omega), if_pos (by omega)] at hF
    rw [if_pos c14]
    exact R _ (by decide) hF
  rw [if_neg c14]
  by_cases c15 : 0 ≤ f
  rotate_left
  · rw [if_neg (by omega), if_pos (by omega)] at hF
    rw [if_neg c15]
    exact R _ (by decide) hF
  rw [if_pos c15]
  by_cases c16 : 99 < b
  · rw [if_neg (by omega), if_neg (by omega), if_pos (by omega)] at hF
    rw [if_pos c16]
    exact R _ (by decide) hF
  rw [if_neg c16]
  by_cases c17 : 99 < d
  · rw [if_neg (by omega), if_neg (by omega), if_pos (by omega)] at hF
    rw [if_pos c17]
    exact R _ (by decide) hF
  rw [if_neg c17]
  by_cases c18 : 9999 < e
  · rw [if_neg (by omega), if_neg (by omega), if_pos (by omega)] at hF
    rw [if_pos c18]
    exact R _ (by decide) hF
  rw [if_neg c18]
  by_cases c19 : 99 < f
  · rw [if_neg (by omega), if_neg (by omega), if_pos (by omega)] at hF
    rw [if_pos c19]
    exact R _ (by decide) hF
  rw [if_neg c19]
  rw [c1]
  by_cases c20 : S 0 3 < 6
  rotate_left
  · rw [if_neg (by omega), if_neg (by omega), if_pos (by omega)] at hF
    rw [if_neg c20]
    exact R _ (by decide) hF
  rw [if_pos c20]
  rw [if_neg (by omega), if_neg (by omega), if_neg (by omega)] at hF
  refine vw_X7_append ?_
  rw [c1, if_pos (by omega)]
  refine ⟨by omega, by omega, by omega, by omega, by omega, by omega, mv_qi_i (cl_forgetBids (mv_qi_i ?_))⟩
  have hC' : sg_C 0 (mv_up (mv_up (mv_up (mv_up (mv_up (mv_up S 8 (S 0 3).toNat a) 9 (S 0 3).toNat b) 10 (S 0 3).toNat d) 11 (S 0 3).toNat e) 12 (S 0 3).toNat f) 0 3 (S 0 3 + 1)) (mv_up (mv_up (mv_up (mv_up (mv_up (mv_up M 18 (S 0 3).toNat a) 19 (S 0 3).toNat b) 20 (S 0 3).toNat d) 21 (S 0 3).toNat e) 22 (S 0 3).toNat f) 17 0 (S 0 3 + 1)) := by
    refine ⟨hC.1, hC.2.1, hC.2.2.1, hC.2.2.2.1, ⟨?_, hC.2.2.2.2.1.2⟩, fun j hj => ?_, hC.2.2.2.2.2.2⟩
    · show mv_up _ 17 0 (S 0 3 + 1) 17 0 = mv_up _ 0 3 (S 0 3 + 1) 0 3
      rw [mv_up_s, mv_up_s]
    · obtain ⟨q1, q2, q3, q4, q5, q6, q7, q8⟩ := hC.2.2.2.2.2.1 j hj
      refine ⟨mv_up_sm (M := M) (S := S) q1, mv_up_sm (M := M) (S := S) q2, mv_up_sm (M := M) (S := S) q3, mv_up_sm (M := M) (S := S) q4, mv_up_sm (M := M) (S := S) q5, q6, q7, ?_⟩
      refine Eq.trans q8 ?_
      exact (sg_ys_c (S := S) (S' := mv_up (mv_up (mv_up (mv_up (mv_up (mv_up S 8 (S 0 3).toNat a) 9 (S 0 3).toNat b) 10 (S 0 3).toNat d) 11 (S 0 3).toNat e) 12 (S 0 3).toNat f) 0 3 (S 0 3 + 1)) (fun i => rfl) _).symm
  refine hF _ (fun a i ha => by rw [mv_up_c (by omega), mv_up_c (by omega), mv_up_c (by omega), mv_up_c (by omega), mv_up_c (by omega), mv_up_c (by omega), mv_up_c (by omega)]) (sg_CC_b h (fun a i ha => ?_) (fun a i ha => ?_) hC' rfl (fun hW => ?_))
  · rw [mv_up_c (by omega), mv_up_c (by omega), mv_up_c (by omega), mv_up_c (by omega), mv_up_c (by omega), mv_up_c (by omega)]
  · exact (mv_up_c (by omega)).trans ((mv_up_c (by omega)).trans ((mv_up_c (by omega)).trans ((mv_up_c (by omega)).trans ((mv_up_c (by omega)).trans (mv_up_c (by omega))))))
  · have : sg_W S (mv_up (mv_up (mv_up (mv_up (mv_up (mv_up M 18 (S 0 3).toNat a) 19 (S 0 3).toNat b) 20 (S 0 3).toNat d) 21 (S 0 3).toNat e) 22 (S 0 3).toNat f) 17 0 (S 0 3 + 1)) := sg_W_fr hW (fun c d1 d2 _ i => by rw [mv_up_c (by omega), mv_up_c (by omega), mv_up_c (by omega), mv_up_c (by omega), mv_up_c (by omega), mv_up_c (by omega)])
    exact this
theorem ca_year (hS : sg_oo c S) (hc : c ≤ 100000) (h : sg_CC S M) {a b : Int} (hF : ∀ M', sg_X M M' → sg_CC (sa_year S a b).2 M' → F (sa_year S a b).1 M') : mv_Wp G 95 [.inr (.inr 1), .inl a, .inl b] (mh l) M (mv_qi (mh l) F) := by
  have hw := hS.1
  have hC := h.1.1
  have hu := sg_nu hw
  unfold sa_year at hF
  have R : ∀ r : Int, -6 ≤ r ∧ r ≤ -1 → (∀ M', sg_X M M' → sg_CC (sg_no S r) M' → F r M') → mv_Wp G 126 [.inr (.inr 1), .inl r] (mh l) M (mv_qi (mh l) fun x M' => mv_qi (mh l) F (some (.inl x)) (mh l) M') := fun r hr hf => cl_refuse hS hc h hr (fun M' a b => mv_qi_i (hf M' a b))
  refine vw_X11_year (cl_isNoUse hC (fun q => ?_) (fun q => ?_))
  · rw [if_pos q] at hF
    rw [if_neg (by decide)]
    exact R _ (by decide) hF
  · rw [if_neg (fun z => z q)] at hF
    rw [if_pos rfl]
    obtain ⟨u, hu2⟩ := sg_nat q.1
    subst hu2
    have h6 : u < 6 := by omega
    obtain ⟨q1, q2, q3, q4, q5, q6, q7, q8⟩ := hC.2.2.2.2.2.1 u h6
    have q1 : M 18 u = S 8 u := q1
    have q7 : M 24 u = S 15 u := q7
    have q8 : M 25 u = sg_ys S u (S 15 u).toNat := q8
    have hb := sg_w8 hw h6
    have hyb := sg_ys_b hw h6 (S 15 u).toNat (by omega)
    rw [Int.toNat_natCast] at hF
    rw [Int.toNat_natCast, q1, q7]
    refine ⟨by omega, ?_⟩
    split
    · rename_i z
      rw [if_neg (fun y => y z)] at hF
      split
      · rw [if_neg (by omega)] at hF
        split
        · rw [if_pos (by omega)] at hF
          exact R _ (by decide) hF
        · refine ⟨by omega, ?_⟩
          split
          · rename_i z2
            rw [if_neg (by omega)] at hF
            have e25 : (mv_up M 24 u (S 15 u + 1)) 25 u = sg_ys S u (S 15 u).toNat := (mv_up_c (by decide)).trans q8
            rw [e25]
            refine ⟨by omega, by omega, by omega, by omega, by omega, by omega, cl_forgetBids ⟨by omega, ?_⟩⟩
            have e24 : (mv_up (mv_up (mv_up M 24 u (S 15 u + 1)) 25 u (sg_ys S u (S 15 u).toNat + b)) 6 7 0) 24 u = S 15 u + 1 := by
              rw [mv_up_c (by decide), mv_up_c (by decide), mv_up_s]
            rw [e24]
            refine mv_qi_i ?_
            have hC' : sg_C 0 (mv_up (mv_up S 14 (6 * u + (S 15 u).toNat) b) 15 u (S 15 u + 1)) (mv_up (mv_up M 24 u (S 15 u + 1)) 25 u (sg_ys S u (S 15 u).toNat + b)) := by
              refine ⟨hC.1, hC.2.1, hC.2.2.1, hC.2.2.2.1, hC.2.2.2.2.1, fun j hj => ?_, hC.2.2.2.2.2.2⟩
              obtain ⟨p1, p2, p3, p4, p5, p6, p7, p8⟩ := hC.2.2.2.2.2.1 j hj
              refine ⟨p1, p2, p3, p4, p5, p6, mv_up_sm (M := M) (S := S) p7, ?_⟩
              show mv_up (mv_up M 24 u (S 15 u + 1)) 25 u (sg_ys S u (S 15 u).toNat + b) 25 j = sg_ys (mv_up (mv_up S 14 (6 * u + (S 15 u).toNat) b) 15 u (S 15 u + 1)) j (mv_up (mv_up S 14 (6 * u + (S 15 u).toNat) b) 15 u (S 15 u + 1) 15 j).toNat
              rw [sg_ys_u (by decide)]
              have ysb : ∀ n, n ≤ 6 → (j = u → n ≤ (S 15 u).toNat) → sg_ys (mv_up S 14 (6 * u + (S 15 u).toNat) b) j n = sg_ys S j n := by
                intro n
                induction n with
                | zero => intro _ _; rfl
                | succ n ih =>
                  intro hn hju
                  unfold sg_ys
                  rw [ih (by omega) (fun y => by have := hju y; omega), mv_up_j (fun y => by
                    have : j = u := by omega
                    have := hju this
                    omega)]
              by_cases y : j = u
              · subst y
                rw [mv_up_s, mv_up_s, show (S 15 j + 1).toNat = (S 15 j).toNat + 1 by omega]
                show sg_ys S j (S 15 j).toNat + b = sg_ys (mv_up S 14 (6 * j + (S 15 j).toNat) b) j (S 15 j).toNat + mv_up S 14 (6 * j + (S 15 j).toNat) b 14 (6 * j + (S 15 j).toNat)
                rw [mv_up_s, ysb _ (by omega) (fun _ => Nat.le_refl _)]
              · have hbj := sg_w8 hw hj
                rw [mv_up_j y, mv_up_j y, mv_up_c (show 25 ≠ 24 by decide), mv_up_c (show 15 ≠ 14 by decide), ysb _ (by omega) (fun z => absurd z y)]
                exact p8
            refine hF _ (fun a i ha => by rw [mv_up_c (by omega), mv_up_c (by omega), mv_up_c (by omega)]) (sg_CC_b h (sg_Q_t (sg_Q_up (by decide)) (sg_Q_up (by decide))) (fun a i ha => (mv_up_c (by omega)).trans (mv_up_c (by omega))) hC' rfl (fun hW => ?_))
            have : sg_W S (mv_up (mv_up M 24 u (S 15 u + 1)) 25 u (sg_ys S u (S 15 u).toNat + b)) := sg_W_fr hW (fun c d1 d2 _ i => by rw [mv_up_c (by omega), mv_up_c (by omega)])
            exact this
          · rw [if_pos (by omega)] at hF
            exact R _ (by decide) hF
      · rw [if_pos (by omega)] at hF
        exact R _ (by decide) hF
    · rename_i z
      rw [if_pos z] at hF
      exact R _ (by decide) hF
theorem ca_price (hS : sg_oo c S) (hc : c ≤ 100000) (h : sg_CC S M) {a b v : Int} (hF : ∀ M', sg_X M M' → sg_CC (sa_price S a b v).2 M' → F (sa_price S a b v).1 M') : mv_Wp G 96 [.inr (.inr 1), .inl a, .inl b, .inl v] (mh l) M (mv_qi (mh l) F) := by
  have hw := hS.1
  have hC := h.1.1
  have hu := sg_nu hw
  have hm3 := hw.1.2.2.1
  unfold sa_price at hF
  have R : ∀ r : Int, -6 ≤ r ∧ r ≤ -1 → (∀ M', sg_X M M' → sg_CC (sg_no S r) M' → F r M') → mv_Wp G 126 [.inr (.inr 1), .inl r] (mh l) M (mv_qi (mh l) fun x M' => mv_qi (mh l) F (some (.inl x)) (mh l) M') := fun r hr hf => cl_refuse hS hc h hr (fun M' a b => mv_qi_i (hf M' a b))
  refine vw_X11_price (cl_isNoUse hC (fun q => ?_) (fun q => ?_))
  · rw [sg_ip_y (fun z => q z.1)] at hF
    rw [if_neg (by decide)]
    exact R _ (by decide) hF
  · rw [if_pos rfl]
    refine cl_isNoMarket hC (fun q2 => ?_) (fun q2 => ?_)
    · rw [sg_ip_y (fun z => q2 z.2)] at hF
      rw [if_neg (by decide)]
      exact R _ (by decide) hF
    · rw [sg_ip_n (fun z => z ⟨q, q2⟩)] at hF
      rw [if_pos rfl]
      refine cl_unfit ?_
      split
      · rename_i z
        rw [if_neg (fun y => y z)] at hF
        obtain ⟨u, hu2⟩ := sg_nat q.1
        obtain ⟨m, hm2⟩ := sg_nat q2.1
        subst hu2
        subst hm2
        refine cl_offerOf (by omega) (by omega) ?_
        have e : sg_of (u : Int) (m : Int) = 3 * u + m := by
          unfold sg_of
          rw [Int.toNat_natCast, Int.toNat_natCast]
        rw [e] at hF
        have ho : 3 * u + m < 18 := by omega
        have q1 : M 26 (3 * u + m) = S 16 (3 * u + m) := (hC.2.2.2.2.2.2.1 _ ho).1
        rw [Int.toNat_natCast, q1]
        refine ⟨by omega, by omega, cl_forgetBids (mv_qi_i ?_)⟩
        refine hF _ (fun a i ha => by rw [mv_up_c (by omega), mv_up_c (by omega)]) (sg_CC_b h (sg_Q_up (by decide)) (fun a i ha => mv_up_c (by omega)) (sg_C_16 hC) rfl (fun hW => ?_))
        exact sg_W_16 (sg_W_fr hW (fun c d1 d2 _ i => mv_up_c (by omega)))
      · rename_i z
        rw [if_pos z] at hF
        exact R _ (sg_un_r z) hF
theorem ca_tax (hS : sg_oo c S) (hc : c ≤ 100000) (h : sg_CC S M) {a v : Int} (hF : ∀ M', sg_X M M' → sg_CC (sa_tax S a v).2 M' → F (sa_tax S a v).1 M') : mv_Wp G 97 [.inr (.inr 1), .inl a, .inl v] (mh l) M (mv_qi (mh l) F) := by
  have hw := hS.1
  have hC := h.1.1
  have hu := sg_nu hw
  unfold sa_tax at hF
  have R : ∀ r : Int, -6 ≤ r ∧ r ≤ -1 → (∀ M', sg_X M M' → sg_CC (sg_no S r) M' → F r M') → mv_Wp G 126 [.inr (.inr 1), .inl r] (mh l) M (mv_qi (mh l) fun x M' => mv_qi (mh l) F (some (.inl x)) (mh l) M') := fun r hr hf => cl_refuse hS hc h hr (fun M' a b => mv_qi_i (hf M' a b))
  refine vw_X11_tax ?_
  split
  · rename_i q
    rw [if_pos q] at hF
    refine vw_X11_rentTax (cl_unfit ?_)
    split
    · rename_i z
      rw [if_neg (fun y => y z)] at hF
      have c1 : M 17 1 = S 0 4 := hC.2.2.2.2.1.2
      rw [c1]
      refine mv_qi_i (mv_qi_i ?_)
      have hC' : sg_C 0 (mv_up S 0 4 v) (mv_up M 17 1 v) := by
        refine ⟨hC.1, hC.2.1, hC.2.2.1, hC.2.2.2.1, ⟨hC.2.2.2.2.1.1, ?_⟩, fun j hj => ?_, hC.2.2.2.2.2.2⟩
        · show mv_up M 17 1 v 17 1 = mv_up S 0 4 v 0 4
          rw [mv_up_s, mv_up_s]
        · obtain ⟨q1, q2, q3, q4, q5, q6, q7, q8⟩ := hC.2.2.2.2.2.1 j hj
          exact ⟨q1, q2, q3, q4, q5, q6, q7, Eq.trans q8 (sg_ys_c (S := S) (S' := mv_up S 0 4 v) (fun i => rfl) _).symm⟩
      obtain ⟨k1, k2, k3, k4, k5, k6⟩ := h.1
      have bd : ∀ o k, sg_bid (mv_up S 0 4 v) o k = sg_bid S o k := fun o k => by
        show sg_if (sg_cg S (o / 3) (sg_wo S o k)) (100 * (sg_yl S (o / 3) (S 1 k) * (S 16 o + sg_mn (mv_up S 0 4 v) (o / 3)) - S 11 (o / 3) - S 13 (o / 3)) - sg_cr S (o / 3) (S 1 k) * sg_wo S o k) 0 = _
        rw [sg_mn_u (by decide) (by decide)]
        rfl
      have gg : ∀ w k n, sg_g (mv_up S 0 4 v) w k n = sg_g S w k n := fun w k n => by
        induction n with
        | zero => rfl
        | succ n ih =>
          show (if ((n % 3 : Nat) : Int) < S 0 2 ∧ (n : Int) ≠ w ∧ (sg_g (mv_up S 0 4 v) w k n).2 < sg_bid (mv_up S 0 4 v) n k then ((n : Int), sg_bid (mv_up S 0 4 v) n k) else sg_g (mv_up S 0 4 v) w k n) = (if ((n % 3 : Nat) : Int) < S 0 2 ∧ (n : Int) ≠ w ∧ (sg_g S w k n).2 < sg_bid S n k then ((n : Int), sg_bid S n k) else sg_g S w k n)
          rw [ih, bd]
      have tk : ∀ k, sg_tk (mv_up S 0 4 v) k = sg_tk S k := fun k => by
        show (if S 4 k = 0 then (sg_g (mv_up S 0 4 v) (-1) k (3 * (S 0 3).toNat)).1 else -1) = _
        rw [gg]
        rfl
      have hK : sg_K (mv_up S 0 4 v) (mv_up M 17 1 v) := by
        refine ⟨hC', k2, k3, fun z => ?_, k5, fun z => ⟨fun o k z1 z2 z3 => ?_, fun k z1 => ?_⟩⟩
        · exact k4 z
        · rw [bd]
          exact (k6 z).1 o k z1 z2 z3
        · rw [tk]
          exact (k6 z).2 k z1
      exact hF _ (fun a i ha => mv_up_c (by omega)) (sg_CC_q h (sg_Q_up (by decide)) (fun a i ha => mv_up_c (by omega)) hK)
    · rename_i z
      rw [if_pos z] at hF
      exact cl_refuse hS hc h (sg_un_r z) (fun M' a b => mv_qi_i (mv_qi_i (hF M' a b)))
  · rename_i q
    rw [if_neg q] at hF
    refine cl_isNoUse hC (fun q => ?_) (fun q => ?_)
    · rw [if_pos q] at hF
      rw [if_neg (by decide)]
      exact R _ (by decide) hF
    · rw [if_neg (fun z => z q)] at hF
      rw [if_pos rfl]
      refine cl_unfit ?_
      split
      · rename_i z
        rw [if_neg (fun y => y z)] at hF
        obtain ⟨u, hu2⟩ := sg_nat q.1
        subst hu2
        have c1 : M 23 u = S 13 u := (hC.2.2.2.2.2.1 u (by omega)).2.2.2.2.2.1
        rw [Int.toNat_natCast] at hF
        rw [Int.toNat_natCast, c1]
        refine ⟨by omega, by omega, cl_forgetBids (mv_qi_i ?_)⟩
        refine hF _ (fun a i ha => by rw [mv_up_c (by omega), mv_up_c (by omega)]) (sg_CC_b h (sg_Q_up (by decide)) (fun a i ha => mv_up_c (by omega)) (sg_C_13 hC) rfl (fun hW => ?_))
        have : sg_W S (mv_up M 23 u v) := sg_W_fr hW (fun c d1 d2 _ i => mv_up_c (by omega))
        exact this
      · rename_i z
        rw [if_pos z] at hF
        exact R _ (sg_un_r z) hF
theorem ca_goes (hS : sg_oo c S) (hc : c ≤ 100000) (h : sg_CC S M) {a b : Int} (ha : mv_R32 a) (hF : ∀ M', sg_X M M' → sg_CC (sa_goes S a b).2 M' → F (sa_goes S a b).1 M') : mv_Wp G 100 [.inr (.inr 1), .inl a, .inl b] (mh l) M (mv_qi (mh l) F) := by
  have hw := hS.1
  have hC := h.1.1
  unfold sa_goes at hF
  have R : ∀ r : Int, -6 ≤ r ∧ r ≤ -1 → (∀ M', sg_X M M' → sg_CC (sg_no S r) M' → F r M') → mv_Wp G 126 [.inr (.inr 1), .inl r] (mh l) M (mv_qi (mh l) fun x M' => mv_qi (mh l) F (some (.inl x)) (mh l) M') := fun r hr hf => cl_refuse hS hc h hr (fun M' a b => mv_qi_i (hf M' a b))
  refine vw_X11_goes (cl_place hw hC ha (fun q => ?_) (fun k hk k48 e => ?_))
  · rw [if_pos q] at hF
    rw [if_pos rfl]
    exact R _ (by decide) hF
  · have hp := (sg_pl_lt hw hk).2
    rw [if_neg (by omega), e, Int.toNat_natCast] at hF
    rw [if_neg (by omega)]
    split
    · rw [if_pos (by omega)] at hF
      exact R _ (by decide) hF
    · split
      · rw [if_neg (by omega)] at hF
        refine cl_settled hw h (fun M1 x1 CC1 C1 Z1 f6 f7 => ?_)
        rw [Int.toNat_natCast, Z1.2.2 k hk]
        refine ⟨by omega, ?_⟩
        split
        · rename_i q
          rw [if_pos q] at hF
          exact mv_qi_i (hF M1 x1 CC1)
        · rename_i q
          rw [if_neg q] at hF
          have t0 : 0 ≤ sg_tk S k ∧ sg_tk S k < 18 := by
            rcases sg_tk_i hw k with z | ⟨o, z1, z2, z3, z4, z5⟩
            · exact absurd z.1 q
            · omega
          rw [sg_td t0.1, sg_tm t0.1]
          split
          · rename_i q2
            rw [if_pos q2] at hF
            exact ⟨⟨by decide, by omega⟩, mv_qi_i (hF M1 x1 CC1)⟩
          · rename_i q2
            rw [if_neg q2] at hF
            exact ⟨by decide, mv_qi_i (hF M1 x1 CC1)⟩
      · rw [if_pos (by omega)] at hF
        exact R _ (by decide) hF
theorem ca_rent (hS : sg_oo c S) (hc : c ≤ 100000) (h : sg_CC S M) {a : Int} (ha : mv_R32 a) (hF : ∀ M', sg_X M M' → sg_CC (sa_rent S a).2 M' → F (sa_rent S a).1 M') : mv_Wp G 101 [.inr (.inr 1), .inl a] (mh l) M (mv_ql (mh l) F) := by
  have hw := hS.1
  have hC := h.1.1
  unfold sa_rent at hF
  refine vw_X11_rent (cl_placeOf hw hC ha ?_)
  split
  · rename_i q
    rw [if_pos q] at hF
    refine cl_settled hw h (fun M1 x1 CC1 C1 Z1 f6 f7 => ?_)
    try rw [if_pos q]
    exact cl_allRents hw C1 Z1.2.1 Z1.2.2 (mv_ql_i (hF M1 x1 CC1))
  · rename_i q
    rw [if_neg q] at hF
    unfold sg_pa
    by_cases hac : 0 ≤ sg_ac S a
    · obtain ⟨hk, hk48, -⟩ := sg_ac_ok hw hac
      rw [if_neg (by omega)] at hF
      rw [if_pos hac, if_neg (by omega)]
      refine cl_settled hw h (fun M1 x1 CC1 C1 Z1 f6 f7 => ?_)
      try rw [if_neg q]
      exact cl_rentAt hw C1 Z1.2.1 Z1.2.2 hk (mv_ql_i (hF M1 x1 CC1))
    · rw [if_pos (by omega)] at hF
      rw [if_neg hac, if_pos rfl]
      exact cl_refuseLong hS hc h (by decide) (fun M' a b => mv_ql_i (hF M' a b))
end CB
