/-! THE CLASS's CALLS, the plain ones -/
section CA
variable {S : mv_Mem} {G : mv_G} {l c : Nat} {M : mv_Mem} {F : Int → mv_Mem → Prop}
theorem cl_place (hw : sg_wf S) (hC : sg_C 0 S M) {a : Int} (ha : mv_R32 a) (h0 : sg_ac S a < 0 → F (-1) M) (h1 : ∀ k : Nat, sg_ok S k → k < 48 → sg_ac S a = (k : Int) → F (sg_pl S k : Int) M) : mv_Wp G 4 [.inr (.inr 8), .inl a] (mh l) M (mv_qi (mh l) F) := by
  refine cl_placeOf hw hC ha ?_
  unfold sg_pa
  split
  · rename_i q
    obtain ⟨z1, z2, -⟩ := sg_ac_ok hw q
    exact h1 _ z1 z2 (by omega)
  · rename_i q
    exact h0 (by omega)
theorem sg_un_r {v lo hi : Int} (h : sg_un v lo hi ≠ 0) : -6 ≤ sg_un v lo hi ∧ sg_un v lo hi ≤ -1 := by
  unfold sg_un at h ⊢
  split
  · decide
  · split
    · decide
    · rename_i a b
      rw [if_neg a, if_neg b] at h
      exact absurd rfl h
theorem sg_un_0 {v lo hi : Int} (h : sg_un v lo hi = 0) : lo ≤ v ∧ v ≤ hi := by
  unfold sg_un at h
  split at h
  · omega
  · split at h
    · omega
    · omega
theorem ca_feed (hS : sg_oo c S) (hc : c ≤ 100000) (h : sg_CC S M) {a b : Int} (ha : mv_R32 a) (hb : mv_R64 b) (hF : ∀ M', sg_X M M' → sg_CC (sa_feed S a b).2 M' → F (sa_feed S a b).1 M') : mv_Wp G 86 [.inr (.inr 1), .inl a, .inr (.inl b)] (mh l) M (mv_qi (mh l) F) := by
  refine vw_X11_feed ?_
  have hl := hS.2.1
  have c2 : M 2 1 = S 30 0 := h.2.1
  unfold sa_feed at hF
  rw [c2]
  split
  · rename_i q1
    rw [if_neg (by omega)] at hF
    split
    · rename_i q2
      rw [if_pos (Or.inl q2)] at hF
      exact cl_refuse hS hc h (by decide) (fun M' a b => mv_qi_i (hF M' a b))
    · rename_i q2
      refine ⟨by omega, ?_⟩
      split
      · rename_i q3
        rw [if_neg (by omega)] at hF
        obtain ⟨n, hn⟩ := sg_nat (show 0 ≤ a by omega)
        obtain ⟨len, hlen⟩ := sg_nat hl.1
        subst hn
        refine cl_tapeAppend (n := n) (len := len) hb (by omega) (by omega) (by omega) (fun M' f1 f2 f3 f4 => ?_)
        rw [f4, show ((len + n : Nat) : Int) = S 30 0 + (n : Int) by omega]
        refine mv_qi_i (hF M' (fun a i ha => f1 a i (by omega) (by omega)) ?_)
        have hsw : sg_sw S (fun a i => if a = 30 ∧ i = 0 then S 30 0 + (n : Int) else if a = 31 ∧ (S 30 0).toNat ≤ i ∧ i < (S 30 0).toNat + (n : Int).toNat then sg_by b (i - (S 30 0).toNat) else S a i) := fun a i ha => by
          show (if a = 30 ∧ i = 0 then _ else if a = 31 ∧ _ then _ else S a i) = S a i
          rw [if_neg (by omega), if_neg (fun z => by omega)]
        obtain ⟨h1, h2, h3, h4, h5, h6, h7, h8⟩ := h
        refine ⟨sg_sw_K hsw (sg_K_fr h1 (fun a i ha => f1 a i (by omega) (by omega))), ?_, fun i hi => ?_, ?_, fun i hi => ?_, fun i hi => ?_, ?_, fun z => ?_⟩
        · show M' 2 1 = S 30 0 + (n : Int)
          omega
        · have hi : (i : Int) < S 30 0 + (n : Int) := hi
          show M' 3 i = (if 31 = 30 ∧ i = 0 then S 30 0 + (n : Int) else if 31 = 31 ∧ (S 30 0).toNat ≤ i ∧ i < (S 30 0).toNat + (n : Int).toNat then sg_by b (i - (S 30 0).toNat) else S 31 i)
          rw [if_neg (fun z => by omega)]
          by_cases q : i < len
          · rw [if_neg (fun z => by omega), f2 i q]
            exact h3 i (by omega)
          · rw [if_pos ⟨rfl, by omega, by omega⟩]
            have := f3 (i - len) (by omega)
            rw [show len + (i - len) = i by omega] at this
            rw [this]
            congr 1
            omega
        · show M' 4 1 = S 32 0
          rw [f1 4 1 (by decide) (by decide)]
          exact h4
        · have hi : (i : Int) < S 32 0 := hi
          show M' 5 i = S 33 i
          rw [f1 5 i (by decide) (by decide)]
          exact h5 i hi
        · show M' 87 i = S 34 i
          rw [f1 87 i (by decide) (by decide)]
          exact h6 i hi
        · show M' 1 8 = S 35 0
          rw [f1 1 8 (by decide) (by decide)]
          exact h7
        · have z : S 35 0 = 1 := z
          refine sg_C_fr (M := M) ?_ (fun c d1 d2 i => f1 c i (by omega) (by omega))
          have e : sg_kp (fun a i => if a = 30 ∧ i = 0 then S 30 0 + (n : Int) else if a = 31 ∧ (S 30 0).toNat ≤ i ∧ i < (S 30 0).toNat + (n : Int).toNat then sg_by b (i - (S 30 0).toNat) else S a i) = sg_kp S := by
            funext a i
            show (if 40 + a = 30 ∧ i = 0 then _ else if 40 + a = 31 ∧ _ then _ else S (40 + a) i) = S (40 + a) i
            rw [if_neg (by omega), if_neg (fun z => by omega)]
          rw [e]
          exact h8 z
      · rename_i q3
        rw [if_pos (Or.inr (by omega))] at hF
        exact cl_refuse hS hc h (by decide) (fun M' a b => mv_qi_i (hF M' a b))
  · rename_i q1
    rw [if_pos (by omega)] at hF
    exact cl_refuse hS hc h (by decide) (fun M' a b => mv_qi_i (hF M' a b))
theorem ca_acre (hS : sg_oo c S) (hc : c ≤ 100000) (h : sg_CC S M) {a b : Int} (ha : mv_R32 a) (hF : ∀ M', sg_X M M' → sg_CC (sa_acre S a b).2 M' → F (sa_acre S a b).1 M') : mv_Wp G 88 [.inr (.inr 1), .inl a, .inl b] (mh l) M (mv_qi (mh l) F) := by
  have hw := hS.1
  have hC := h.1.1
  unfold sa_acre at hF
  refine vw_X11_acre (cl_place hw hC ha (fun q => ?_) (fun k hk k48 e => ?_))
  · rw [if_pos q] at hF
    rw [if_pos rfl]
    exact cl_refuse hS hc h (by decide) (fun M' a b => mv_qi_i (hF M' a b))
  · have hp := (sg_pl_lt hw hk).2
    obtain ⟨q1, q2, q3, q4, q5, q6⟩ := hC.2.1 k hk
    have q2 : M 10 (sg_pl S k) = S 1 k := q2
    have q3 : M 11 (sg_pl S k) = S 2 k := q3
    have q4 : M 12 (sg_pl S k) = S 3 k := q4
    have q5 : M 13 (sg_pl S k) = S 4 k := q5
    rw [if_neg (by omega), e, Int.toNat_natCast] at hF
    rw [if_neg (by omega), Int.toNat_natCast, q2, q3, q4, q5]
    split
    · rename_i z
      rw [if_pos z] at hF
      exact ⟨by omega, mv_qi_i (hF M sg_X_r h)⟩
    · rename_i z0
      rw [if_neg z0] at hF
      split
      · rename_i z
        rw [if_pos (by omega)] at hF
        exact ⟨by omega, mv_qi_i (hF M sg_X_r h)⟩
      · rename_i z1
        rw [if_neg (by omega)] at hF
        split
        · rename_i z
          rw [if_pos (by omega)] at hF
          exact ⟨by omega, mv_qi_i (hF M sg_X_r h)⟩
        · rename_i z2
          rw [if_neg (by omega)] at hF
          split
          · rename_i z
            rw [if_pos (by omega)] at hF
            refine ⟨by omega, ?_⟩
            split
            · rename_i y
              rw [if_neg (by omega)] at hF
              exact ⟨by omega, mv_qi_i (hF M sg_X_r h)⟩
            · rename_i y
              rw [if_pos (by omega)] at hF
              exact mv_qi_i (hF M sg_X_r h)
          · rename_i z3
            rw [if_neg (by omega)] at hF
            split
            · rename_i z
              rw [if_pos (by omega)] at hF
              exact cl_marketOn hw hC hk (mv_qi_i (hF M sg_X_r h))
            · rename_i z4
              rw [if_neg (by omega)] at hF
              exact cl_refuse hS hc h (by decide) (fun M' a b => mv_qi_i (hF M' a b))
/-- a change of the world, all forgotten -/
theorem sg_CC_w {S' M' : mv_Mem} (h : sg_CC S M) (hq : sg_Q M M') (hs : ∀ a i, 30 ≤ a → S' a i = S a i) (hC : sg_C 0 S' M') : sg_CC S' (mv_up (mv_up M' 6 6 0) 6 7 0) := by
  refine sg_CC_q h (fun a i ha => ?_) hs (sg_K_0 (sg_C_fr hC (fun c d1 d2 i => ?_)) ?_ ?_)
  · rw [mv_up_c (by omega), mv_up_c (by omega)]
    exact hq a i ha
  · rw [mv_up_c (by omega), mv_up_c (by omega)]
  · rw [mv_up_j (by decide), mv_up_s]
  · rw [mv_up_s]
/-- a change of the uses, the bids forgotten -/
theorem sg_CC_b {S' M' : mv_Mem} (h : sg_CC S M) (hq : sg_Q M M') (hs : ∀ a i, 30 ≤ a → S' a i = S a i) (hC : sg_C 0 S' M') (h6 : M' 6 6 = M 6 6) (hW : sg_W S M → sg_W S' M') : sg_CC S' (mv_up M' 6 7 0) := by
  have e6 : (mv_up M' 6 7 0) 6 6 = M 6 6 := by
    rw [mv_up_j (by decide)]
    exact h6
  refine sg_CC_q h (fun a i ha => ?_) hs (sg_K_b (sg_C_fr hC (fun c d1 d2 i => ?_)) ?_ (fun z => ?_) ?_)
  · rw [mv_up_c (by omega)]
    exact hq a i ha
  · rw [mv_up_c (by omega)]
  · rw [e6]
    exact h.1.2.1
  · rw [e6] at z
    exact sg_W_fr (hW (h.1.2.2.2.1 z)) (fun c d1 d2 _ i => mv_up_c (by omega))
  · rw [mv_up_s]
theorem sg_Q_up {a i : Nat} {v : Int} (h : 6 ≤ a ∧ a ≤ 43) : sg_Q M (mv_up M a i v) := fun b j hb => mv_up_c (by omega)
theorem ca_toll (hS : sg_oo c S) (hc : c ≤ 100000) (h : sg_CC S M) {a b : Int} (ha : mv_R32 a) (hF : ∀ M', sg_X M M' → sg_CC (sa_toll S a b).2 M' → F (sa_toll S a b).1 M') : mv_Wp G 91 [.inr (.inr 1), .inl a, .inl b] (mh l) M (mv_qi (mh l) F) := by
  have hw := hS.1
  have hC := h.1.1
  unfold sa_toll at hF
  refine vw_X11_toll (cl_place hw hC ha (fun q => ?_) (fun k hk k48 e => ?_))
  · rw [if_pos q] at hF
    rw [if_pos rfl]
    exact cl_refuse hS hc h (by decide) (fun M' a b => mv_qi_i (hF M' a b))
  · have hp := (sg_pl_lt hw hk).2
    have q3 : M 11 (sg_pl S k) = S 2 k := (hC.2.1 k hk).2.2.1
    rw [if_neg (by omega), e, Int.toNat_natCast] at hF
    rw [if_neg (by omega), Int.toNat_natCast]
    refine cl_unfit ?_
    split
    · rename_i q
      rw [if_neg (by omega)] at hF
      refine ⟨by omega, by omega, cl_forgetWays (mv_qi_i ?_)⟩
      rw [q3]
      have hC' : sg_C 0 (mv_up S 2 k b) (mv_up M 11 (sg_pl S k) b) := by
        refine ⟨hC.1, fun j hj => ?_, hC.2.2.1, hC.2.2.2.1, hC.2.2.2.2.1, fun j hj => have q := hC.2.2.2.2.2.1 j hj; ⟨q.1, q.2.1, q.2.2.1, q.2.2.2.1, q.2.2.2.2.1, q.2.2.2.2.2.1, q.2.2.2.2.2.2.1, sg_C_ys (M := M) (by decide) (by decide) q.2.2.2.2.2.2.2⟩, hC.2.2.2.2.2.2⟩
        obtain ⟨z1, z2, z3, z4, z5, z6⟩ := hC.2.1 j hj
        refine ⟨z1, z2, ?_, z4, z5, z6⟩
        show mv_up M 11 (sg_pl S k) b 11 (sg_pl S j) = mv_up S 2 k b 2 j
        by_cases q : j = k
        · rw [q, mv_up_s, mv_up_s]
        · rw [mv_up_j q, mv_up_j (fun z => q (sg_pl_inj hw hj hk z))]
          exact z3
      exact hF _ (fun a i ha => by rw [mv_up_c (by omega), mv_up_c (by omega), mv_up_c (by omega)]) (sg_CC_w h (sg_Q_up (by decide)) (fun a i ha => mv_up_c (by omega)) hC')
    · rename_i q
      rw [if_pos q] at hF
      exact cl_refuse hS hc h (sg_un_r q) (fun M' a b => mv_qi_i (hF M' a b))
theorem ca_market (hS : sg_oo c S) (hc : c ≤ 100000) (h : sg_CC S M) {a : Int} (ha : mv_R32 a) (hF : ∀ M', sg_X M M' → sg_CC (sa_market S a).2 M' → F (sa_market S a).1 M') : mv_Wp G 93 [.inr (.inr 1), .inl a] (mh l) M (mv_qi (mh l) F) := by
  have hw := hS.1
  have hC := h.1.1
  have hm3 := hw.1.2.2.1
  unfold sa_market at hF
  refine vw_X11_market (cl_place hw hC ha (fun q => ?_) (fun k hk k48 e => ?_))
  · rw [if_pos q] at hF
    rw [if_pos rfl]
    exact cl_refuse hS hc h (by decide) (fun M' a b => mv_qi_i (hF M' a b))
  · have hp := (sg_pl_lt hw hk).2
    have c1 : M 8 4 = S 0 2 := hC.1.2.2.2.2
    rw [if_neg (by omega), e, Int.toNat_natCast] at hF
    rw [if_neg (by omega)]
    refine cl_marketOn hw hC hk ?_
    split
    · rename_i q
      rw [if_neg (fun z => z q)] at hF
      rw [c1]
      split
      · rename_i q2
        rw [if_neg (by omega)] at hF
        refine ⟨by omega, by omega, cl_forgetWays (mv_qi_i ?_)⟩
        have hC' : sg_C 0 (mv_up (mv_up S 7 (S 0 2).toNat (k : Int)) 0 2 (S 0 2 + 1)) (mv_up (mv_up M 15 (S 0 2).toNat (sg_pl S k : Int)) 8 4 (S 0 2 + 1)) := by
          have e0 : ∀ i, i ≠ 2 → (mv_up (mv_up S 7 (S 0 2).toNat (k : Int)) 0 2 (S 0 2 + 1)) 0 i = S 0 i := fun i hi => by rw [mv_up_j hi, mv_up_c (by decide)]
          have epl : ∀ j, sg_pl (mv_up (mv_up S 7 (S 0 2).toNat (k : Int)) 0 2 (S 0 2 + 1)) j = sg_pl S j := fun j => rfl
          have e8 : ∀ i, i ≠ 4 → (mv_up (mv_up M 15 (S 0 2).toNat (sg_pl S k : Int)) 8 4 (S 0 2 + 1)) 8 i = M 8 i := fun i hi => by rw [mv_up_j hi, mv_up_c (by decide)]
          refine ⟨⟨hC.1.1, hC.1.2.1, hC.1.2.2.1, hC.1.2.2.2.1, ?_⟩, hC.2.1, fun m hm => ?_, hC.2.2.2.1, hC.2.2.2.2.1, fun j hj => have q := hC.2.2.2.2.2.1 j hj; ⟨q.1, q.2.1, q.2.2.1, q.2.2.2.1, q.2.2.2.2.1, q.2.2.2.2.2.1, q.2.2.2.2.2.2.1, ?_⟩, hC.2.2.2.2.2.2⟩
          · show mv_up _ 8 4 (S 0 2 + 1) 8 4 = mv_up _ 0 2 (S 0 2 + 1) 0 2
            rw [mv_up_s, mv_up_s]
          · have hm : (m : Int) < S 0 2 + 1 := hm
            rw [epl]
            show mv_up M 15 (S 0 2).toNat (sg_pl S k : Int) 15 m = (sg_pl S ((mv_up S 7 (S 0 2).toNat (k : Int)) 7 m).toNat : Int)
            by_cases z : m = (S 0 2).toNat
            · rw [z, mv_up_s, mv_up_s, Int.toNat_natCast]
            · rw [mv_up_j z, mv_up_j z]
              exact hC.2.2.1 m (by omega)
          · have : sg_ys (mv_up (mv_up S 7 (S 0 2).toNat (k : Int)) 0 2 (S 0 2 + 1)) j (S 15 j).toNat = sg_ys S j (S 15 j).toNat := by
              rw [sg_ys_u (by decide), sg_ys_u (by decide)]
            exact q.2.2.2.2.2.2.2.trans this.symm
        exact hF _ (fun a i ha => by rw [mv_up_c (by omega), mv_up_c (by omega), mv_up_c (by omega), mv_up_c (by omega)]) (sg_CC_w h (sg_Q_t (sg_Q_up (by decide)) (sg_Q_up (by decide))) (fun a i ha => (mv_up_c (by omega)).trans (mv_up_c (by omega))) hC')
      · rename_i q2
        rw [if_pos (by omega)] at hF
        exact cl_refuse hS hc h (by decide) (fun M' a b => mv_qi_i (hF M' a b))
    · rename_i q
      rw [if_pos q] at hF
      exact cl_refuse hS hc h (by decide) (fun M' a b => mv_qi_i (hF M' a b))
end CA
