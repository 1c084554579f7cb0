/-! THE CLASS's CALLS of trade, plans, owners -/
section CD
variable {S : mv_Mem} {G : mv_G} {l c : Nat} {M : mv_Mem} {F : Int → mv_Mem → Prop}
theorem cl_R (hS : sg_oo c S) (hc : c ≤ 100000) (h : sg_CC S M) (r : Int) (hr : -6 ≤ r ∧ r ≤ -1) (hf : ∀ M', sg_X M M' → sg_CC (sg_no S r) M' → F r M') : mv_Wp G 126 [.inr (.inr 1), .inl r] (mh l) M (mv_qi (mh l) fun x M' => mv_qi (mh l) F (some (.inl x)) (mh l) M') := cl_refuse hS hc h hr (fun M' a b => mv_qi_i (hf M' a b))
theorem sg_of_n {u m : Nat} : sg_of (u : Int) (m : Int) = 3 * u + m := by
  unfold sg_of
  rw [Int.toNat_natCast, Int.toNat_natCast]
/-- all is settled; then scratch cells and the flags alone change -/
theorem sg_CC_z {M1 M2 : mv_Mem} (h : sg_CC S M1) (hZ : sg_Z S M1) (f6 : M1 6 6 = 1) (f7 : M1 6 7 = 1) (h2 : ∀ a i, a < 73 ∨ 76 < a → M2 a i = M1 a i) : sg_CC S M2 :=
  sg_CC_q h (fun a i ha => h2 a i (by omega)) (fun _ _ _ => rfl) (sg_K_1 (sg_C_fr h.1.1 (fun c d1 d2 i => h2 c i (by omega))) ⟨sg_W_fr hZ.1 (fun c d1 d2 d3 i => h2 c i (by omega)), sg_Bd_fr hZ.2.1 (fun i => h2 42 i (by omega)), sg_Tk_fr hZ.2.2 (fun i => h2 43 i (by omega))⟩ ((h2 6 6 (by omega)).trans f6) ((h2 6 7 (by omega)).trans f7))
theorem ca_piece (hS : sg_oo c S) (hc : c ≤ 100000) (h : sg_CC S M) {a b d e : Int} (hF : ∀ M', sg_X M M' → sg_CC (sa_piece S a b d e).2 M' → F (sa_piece S a b d e).1 M') : mv_Wp G 103 [.inr (.inr 1), .inl a, .inl b, .inl d, .inl e] (mh l) M (mv_qi (mh l) F) := by
  have hw := hS.1
  have hC := h.1.1
  have hu := sg_nu hw
  have hm3 := hw.1.2.2.1
  unfold sa_piece at hF
  refine vw_X11_piece (cl_isNoUse hC (fun q => ?_) (fun q => ?_))
  · rw [sg_ip_y (fun z => q z.1)] at hF
    rw [if_neg (by decide)]
    exact cl_R hS hc h _ (by decide) hF
  · rw [if_pos rfl]
    refine cl_isNoMarket hC (fun q2 => ?_) (fun q2 => ?_)
    · rw [sg_ip_y (fun z => q2 z.2)] at hF
      rw [if_neg (by decide)]
      exact cl_R hS hc h _ (by decide) hF
    · rw [sg_ip_n (fun z => z ⟨q, q2⟩)] at hF
      rw [if_pos rfl]
      obtain ⟨u, hu2⟩ := sg_nat q.1
      obtain ⟨m, hm2⟩ := sg_nat q2.1
      subst hu2
      subst hm2
      rw [sg_of_n] at hF
      have ho : 3 * u + m < 18 := by omega
      generalize hoo : 3 * u + m = o at hF ho
      have c27 : M 27 o = S 19 o := (hC.2.2.2.2.2.2.1 o ho).2
      have hb := (sg_w16 hw ho).2
      by_cases y1 : d < 0
      · rw [if_pos (by omega)] at hF
        rw [if_pos y1]
        exact cl_R hS hc h _ (by decide) hF
      rw [if_neg y1]
      by_cases y2 : 0 ≤ e
      rotate_left
      · rw [if_pos (by omega)] at hF
        rw [if_neg y2]
        exact cl_R hS hc h _ (by decide) hF
      rw [if_neg (by omega)] at hF
      rw [if_pos y2]
      refine cl_offerOf (by omega) (by omega) ?_
      rw [hoo]
      by_cases y3 : 9999 < d
      · rw [if_pos (by omega)] at hF
        rw [if_pos y3]
        exact cl_R hS hc h _ (by decide) hF
      rw [if_neg y3]
      by_cases y4 : 999 < e
      · rw [if_pos (by omega)] at hF
        rw [if_pos y4]
        exact cl_R hS hc h _ (by decide) hF
      rw [if_neg y4, Int.toNat_natCast, c27]
      refine ⟨by omega, ?_⟩
      by_cases y5 : S 19 o < 6
      rotate_left
      · rw [if_pos (by omega)] at hF
        rw [if_neg y5]
        exact cl_R hS hc h _ (by decide) hF
      rw [if_neg (by omega)] at hF
      rw [if_pos y5]
      refine vw_X7_appendPiece ?_
      rw [Int.toNat_natCast, c27, if_neg (by omega), show Int.toNat ((o : Int) * 6 + S 19 o) = 6 * o + (S 19 o).toNat by omega]
      refine ⟨by omega, by omega, by omega, by omega, by omega, by omega, by omega, by omega, by omega, mv_qv_i ⟨by omega, ?_⟩⟩
      rw [mv_up_s]
      refine mv_qi_i ?_
      have hC' : sg_C 0 (mv_up (mv_up (mv_up S 17 (6 * o + (S 19 o).toNat) d) 18 (6 * o + (S 19 o).toNat) e) 19 o (S 19 o + 1)) (mv_up (mv_up (mv_up M 28 (6 * o + (S 19 o).toNat) d) 29 (6 * o + (S 19 o).toNat) e) 27 o (S 19 o + 1)) := by
        refine ⟨hC.1, hC.2.1, hC.2.2.1, hC.2.2.2.1, hC.2.2.2.2.1, fun j hj => ?_, fun j hj => ⟨(hC.2.2.2.2.2.2.1 j hj).1, mv_up_sm (M := M) (S := S) (hC.2.2.2.2.2.2.1 j hj).2⟩, fun j hj => ⟨mv_up_sm (M := M) (S := S) (hC.2.2.2.2.2.2.2.1 j hj).1, mv_up_sm (M := M) (S := S) (hC.2.2.2.2.2.2.2.1 j hj).2⟩, hC.2.2.2.2.2.2.2.2⟩
        obtain ⟨q1, q2, q3, q4, q5, q6, q7, q8⟩ := hC.2.2.2.2.2.1 j hj
        exact ⟨q1, q2, q3, q4, q5, q6, q7, Eq.trans q8 (sg_ys_c (S := S) (S' := mv_up (mv_up (mv_up S 17 (6 * o + (S 19 o).toNat) d) 18 (6 * o + (S 19 o).toNat) e) 19 o (S 19 o + 1)) (fun i => rfl) _).symm⟩
      obtain ⟨k1, k2, k3, k4, k5, k6⟩ := h.1
      have e3 : ∀ a i, a ≤ 16 → (mv_up (mv_up (mv_up S 17 (6 * o + (S 19 o).toNat) d) 18 (6 * o + (S 19 o).toNat) e) 19 o (S 19 o + 1)) a i = S a i := fun a i ha => by rw [mv_up_c (by omega), mv_up_c (by omega), mv_up_c (by omega)]
      have bd : ∀ o' k, sg_bid (mv_up (mv_up (mv_up S 17 (6 * o + (S 19 o).toNat) d) 18 (6 * o + (S 19 o).toNat) e) 19 o (S 19 o + 1)) o' k = sg_bid S o' k := fun o' k => by
        show sg_if (sg_cg S (o' / 3) (sg_wo S o' k)) (100 * (sg_yl S (o' / 3) (S 1 k) * (S 16 o' + sg_mn (mv_up (mv_up (mv_up S 17 (6 * o + (S 19 o).toNat) d) 18 (6 * o + (S 19 o).toNat) e) 19 o (S 19 o + 1)) (o' / 3)) - S 11 (o' / 3) - S 13 (o' / 3)) - sg_cr S (o' / 3) (S 1 k) * sg_wo S o' k) 0 = _
        rw [sg_mn_u (by decide) (by decide), sg_mn_u (by decide) (by decide), sg_mn_u (by decide) (by decide)]
        rfl
      have tk : ∀ k, sg_tk (mv_up (mv_up (mv_up S 17 (6 * o + (S 19 o).toNat) d) 18 (6 * o + (S 19 o).toNat) e) 19 o (S 19 o + 1)) k = sg_tk S k := by
        generalize hS' : (mv_up (mv_up (mv_up S 17 (6 * o + (S 19 o).toNat) d) 18 (6 * o + (S 19 o).toNat) e) 19 o (S 19 o + 1)) = S' at e3 bd
        have gg : ∀ w k n, sg_g S' w k n = sg_g S w k n := fun w k n => by
          induction n with
          | zero => rfl
          | succ n ih =>
            unfold sg_g
            rw [ih, bd, e3 0 2 (by decide)]
        intro k
        unfold sg_tk
        rw [gg, e3 4 k (by decide), e3 0 3 (by decide)]
      have hK : sg_K (mv_up (mv_up (mv_up S 17 (6 * o + (S 19 o).toNat) d) 18 (6 * o + (S 19 o).toNat) e) 19 o (S 19 o + 1)) (mv_up (mv_up (mv_up M 28 (6 * o + (S 19 o).toNat) d) 29 (6 * o + (S 19 o).toNat) e) 27 o (S 19 o + 1)) := by
        refine ⟨hC', k2, k3, fun z => ?_, k5, fun z => ⟨fun o' k z1 z2 z3 => ?_, fun k z1 => ?_⟩⟩
        · have : sg_W S (mv_up (mv_up (mv_up M 28 (6 * o + (S 19 o).toNat) d) 29 (6 * o + (S 19 o).toNat) e) 27 o (S 19 o + 1)) := sg_W_fr (k4 z) (fun c d1 d2 _ i => by rw [mv_up_c (by omega), mv_up_c (by omega), mv_up_c (by omega)])
          exact this
        · rw [bd]
          exact (k6 z).1 o' k z1 z2 z3
        · rw [tk]
          exact (k6 z).2 k z1
      exact hF _ (fun a i ha => by rw [mv_up_c (by omega), mv_up_c (by omega), mv_up_c (by omega)]) (sg_CC_q h (fun a i ha => by rw [mv_up_c (by omega), mv_up_c (by omega), mv_up_c (by omega)]) (fun a i ha => (mv_up_c (by omega)).trans ((mv_up_c (by omega)).trans (mv_up_c (by omega)))) hK)
theorem sg_rn_pq : ∀ (n : Nat) (S : mv_Mem), sg_pq S (sg_rn S n).1
  | 0, _ => fun _ _ _ => rfl
  | n + 1, S => by
    intro a i ha
    have e : sg_rn S (n + 1) = (if (sg_rd S).2 = 0 then ((sg_rd S).1, 1) else ((sg_rn (sg_rd S).1 n).1, (sg_rn (sg_rd S).1 n).2 + 1)) := rfl
    rw [e]
    split
    · exact sg_ro_pq S _ a i ha
    · exact (sg_rn_pq n _ a i ha).trans (sg_ro_pq S _ a i ha)
theorem ca_rounds (hS : sg_oo c S) (hc : c ≤ 100000) (h : sg_CC S M) {a : Int} (hF : ∀ M', sg_X M M' → sg_CC (sa_rounds S a).2 M' → F (sa_rounds S a).1 M') : mv_Wp G 106 [.inr (.inr 1), .inl a] (mh l) M (mv_qi (mh l) F) := by
  have hw := hS.1
  unfold sa_rounds at hF
  refine vw_X11_rounds (cl_unfit ?_)
  split
  · rename_i z
    rw [if_neg (fun y => y z)] at hF
    have hr := sg_un_0 z
    obtain ⟨n, hn⟩ := sg_nat (show 0 ≤ a by omega)
    subst hn
    rw [Int.toNat_natCast] at hF
    refine cl_settled hw h (fun M1 x1 CC1 C1 Z1 f6 f7 => cl_runRounds hw C1 Z1.1 Z1.2.1 (by omega) (fun M2 f2 w2 C2 W2 => cl_forgetBids (mv_qi_i (hF _ (sg_X_t x1 (fun a i ha => ?_)) ?_))))
    · rw [mv_up_c (by omega)]
      exact f2 a i (by omega) (by omega) (by omega) (by omega)
    · exact sg_CC_b CC1 (fun a i ha => f2 a i (by omega) (by omega) (by omega) (by omega)) (fun a i ha => sg_rn_pq n S a i (by omega)) C2 (f2 6 6 (by decide) (by decide) (by decide) (by decide)) (fun _ => W2)
  · rename_i z
    rw [if_pos z] at hF
    exact cl_R hS hc h _ (sg_un_r z) hF
theorem sg_CC_wu {M1 M2 : mv_Mem} (h : sg_CC S M1) (hu : sg_wu M1 M2) (hC : sg_C 0 S M2) (h6 : M2 6 6 = 0) (h7 : M2 6 7 = 0) : sg_CC S M2 :=
  sg_CC_q h (fun a i ha => hu a i (by omega) (by omega) (by omega) (by omega) (by omega) (by omega) (by omega)) (fun _ _ _ => rfl) (sg_K_0 hC h6 h7)
theorem sg_wu_X {M1 M2 : mv_Mem} (hu : sg_wu M1 M2) : sg_X M1 M2 := fun a i ha => hu a i (by omega) (by omega) (by omega) (by omega) (by omega) (by omega) (by omega)
theorem sg_up_r {p : Int} (h : sg_up S p ≠ 0) : -6 ≤ sg_up S p ∧ sg_up S p ≤ -1 := by
  unfold sg_up at h ⊢
  split
  · decide
  · rename_i q
    rw [if_neg q] at h
    by_cases z : sg_bu S p.toNat
    · rw [sg_if_y z]
      decide
    · rw [sg_if_n z] at h
      exact absurd rfl h
theorem sg_up_0 {p : Int} (h : sg_up S p = 0) : 0 ≤ p ∧ p < S 0 5 ∧ ¬ sg_bu S p.toNat := by
  unfold sg_up at h
  split at h
  · omega
  · refine ⟨by omega, by omega, fun z => ?_⟩
    rw [sg_if_y z] at h
    omega
theorem ca_falls (hS : sg_oo c S) (hc : c ≤ 100000) (h : sg_CC S M) {a v : Int} (hF : ∀ M', sg_X M M' → sg_CC (sa_falls S a v).2 M' → F (sa_falls S a v).1 M') : mv_Wp G 117 [.inr (.inr 1), .inl a, .inl v] (mh l) M (mv_qi (mh l) F) := by
  have hw := hS.1
  have hC := h.1.1
  have hu := sg_nu hw
  unfold sa_falls at hF
  refine vw_X11_falls (cl_isNoUse hC (fun q => ?_) (fun q => ?_))
  · rw [if_pos q] at hF
    rw [if_neg (by decide)]
    exact cl_R hS hc h _ (by decide) hF
  · rw [if_neg (fun z => z q)] at hF
    rw [if_pos rfl]
    refine cl_unfit ?_
    split
    · rename_i z
      rw [if_neg (fun y => y z)] at hF
      have hv := sg_un_0 z
      obtain ⟨u, hu2⟩ := sg_nat q.1
      subst hu2
      rw [Int.toNat_natCast] at hF
      refine cl_settled hw h (fun M1 x1 CC1 C1 Z1 f6 f7 => cl_fallingWaste hw C1 Z1.1 Z1.2.1 Z1.2.2 q.2 hv (fun M2 f2 C2 g6 g7 => mv_qi_i (hF M2 (sg_X_t x1 (fun a i ha => f2 a i (by omega) (by omega) (by omega))) ?_)))
      exact sg_CC_q CC1 (fun a i ha => f2 a i (by omega) (by omega) (by omega)) (fun _ _ _ => rfl) (sg_K_b C2 (Or.inr (g6.trans f6)) (fun _ => sg_W_fr Z1.1 (fun c d1 d2 _ i => f2 c i (by omega) (by omega) (by omega))) g7)
    · rename_i z
      rw [if_pos z] at hF
      exact cl_R hS hc h _ (sg_un_r z) hF
end CD
