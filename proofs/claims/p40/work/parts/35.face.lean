/-! THE CLASS's CALLS: owners, rows, images, texts, roads -/
section CE
variable {S : mv_Mem} {G : mv_G} {l c : Nat} {M : mv_Mem} {F : Int → mv_Mem → Prop}
theorem sg_kp_up {a i : Nat} {v : Int} (h : a < 40) : sg_kp (mv_up S a i v) = sg_kp S := by
  funext b j
  exact mv_up_c (by omega)
theorem sg_C_3 (hw : sg_wf S) (hC : sg_C 0 S M) {k : Nat} {v : Int} (hk : sg_ok S k) : sg_C 0 (mv_up S 3 k v) (mv_up M 12 (sg_pl S k) v) := by
  refine ⟨hC.1, fun j hj => ?_, hC.2.2.1, hC.2.2.2.1, hC.2.2.2.2.1, fun j hj => have q := hC.2.2.2.2.2.1 j hj; ⟨q.1, q.2.1, q.2.2.1, q.2.2.2.1, q.2.2.2.2.1, q.2.2.2.2.2.1, q.2.2.2.2.2.2.1, sg_C_ys (M := M) (by decide) (by decide) q.2.2.2.2.2.2.2⟩, hC.2.2.2.2.2.2⟩
  obtain ⟨q1, q2, q3, q4, q5, q6⟩ := hC.2.1 j hj
  refine ⟨q1, q2, q3, ?_, q5, q6⟩
  show mv_up M 12 (sg_pl S k) v 12 (sg_pl S j) = mv_up S 3 k v 3 j
  by_cases q : j = k
  · rw [q, mv_up_s, mv_up_s]
  · rw [mv_up_j q, mv_up_j (fun z => q (sg_pl_inj hw hj hk z))]
    exact q4
theorem sg_g_u {a i : Nat} {v w : Int} {k : Nat} (h : a = 3) : ∀ n, sg_g (mv_up S a i v) w k n = sg_g S w k n := by
  subst h
  intro n
  induction n with
  | zero => rfl
  | succ n ih =>
    show (if ((n % 3 : Nat) : Int) < S 0 2 ∧ (n : Int) ≠ w ∧ (sg_g (mv_up S 3 i v) w k n).2 < sg_bid (mv_up S 3 i v) n k then ((n : Int), sg_bid (mv_up S 3 i v) n k) else sg_g (mv_up S 3 i v) w k n) = (if ((n % 3 : Nat) : Int) < S 0 2 ∧ (n : Int) ≠ w ∧ (sg_g S w k n).2 < sg_bid S n k then ((n : Int), sg_bid S n k) else sg_g S w k n)
    rw [ih, sg_bid_u (Or.inr rfl)]
theorem sg_tk_3 {i : Nat} {v : Int} {k : Nat} : sg_tk (mv_up S 3 i v) k = sg_tk S k := by
  show (if S 4 k = 0 then (sg_g (mv_up S 3 i v) (-1) k (3 * (S 0 3).toNat)).1 else -1) = _
  rw [sg_g_u rfl]
  rfl
theorem ca_own (hS : sg_oo c S) (hc : c ≤ 100000) (h : sg_CC S M) {a b : Int} (ha : mv_R32 a) (hF : ∀ M', sg_X M M' → sg_CC (sa_own S a b).2 M' → F (sa_own S a b).1 M') : mv_Wp G 118 [.inr (.inr 1), .inl a, .inl b] (mh l) M (mv_qi (mh l) F) := by
  have hw := hS.1
  have hC := h.1.1
  unfold sa_own at hF
  refine vw_X11_own (cl_place hw hC ha (fun q => ?_) (fun k hk k48 e => ?_))
  · rw [if_pos q] at hF
    rw [if_pos rfl]
    exact cl_R hS hc h _ (by decide) hF
  · have hp := (sg_pl_lt hw hk).2
    have q3 : M 12 (sg_pl S k) = S 3 k := (hC.2.1 k hk).2.2.2.1
    rw [if_neg (by omega), e, Int.toNat_natCast] at hF
    rw [if_neg (by omega), Int.toNat_natCast]
    refine cl_unfit ?_
    split
    · rename_i z
      rw [if_neg (fun y => y z)] at hF
      rw [q3]
      refine ⟨by omega, ?_⟩
      split
      · rename_i y
        rw [if_pos y] at hF
        exact mv_qi_i (hF M sg_X_r h)
      · rename_i y
        rw [if_neg y] at hF
        refine ⟨by omega, mv_qi_i ?_⟩
        obtain ⟨k1, k2, k3, k4, k5, k6⟩ := h.1
        have hK : sg_K (mv_up S 3 k b) (mv_up M 12 (sg_pl S k) b) := by
          refine ⟨sg_C_3 hw hC hk, k2, k3, fun z => ?_, k5, fun z => ⟨fun o' k z1 z2 z3 => ?_, fun k z1 => ?_⟩⟩
          · have : sg_W S (mv_up M 12 (sg_pl S k) b) := sg_W_fr (k4 z) (fun c d1 d2 _ i => mv_up_c (by omega))
            exact this
          · rw [sg_bid_u (Or.inr rfl)]
            exact (k6 z).1 o' k z1 z2 z3
          · rw [sg_tk_3]
            exact (k6 z).2 k z1
        exact hF _ (fun a i ha => mv_up_c (by omega)) (sg_CC_q h (sg_Q_up (by decide)) (fun a i ha => mv_up_c (by omega)) hK)
    · rename_i z
      rw [if_pos z] at hF
      exact cl_R hS hc h _ (sg_un_r z) hF
theorem ca_held (hS : sg_oo c S) (hc : c ≤ 100000) (h : sg_CC S M) {a b : Int} (ha : mv_R32 a) (hF : ∀ M', sg_X M M' → sg_CC (sa_held S a b).2 M' → F (sa_held S a b).1 M') : mv_Wp G 119 [.inr (.inr 1), .inl a, .inl b] (mh l) M (mv_qi (mh l) F) := by
  have hw := hS.1
  have hC := h.1.1
  unfold sa_held at hF
  refine vw_X11_held (cl_place hw hC ha (fun q => ?_) (fun k hk k48 e => ?_))
  · rw [if_pos q] at hF
    rw [if_pos rfl]
    exact cl_R hS hc h _ (by decide) hF
  · have hp := (sg_pl_lt hw hk).2
    have q3 : M 13 (sg_pl S k) = S 4 k := (hC.2.1 k hk).2.2.2.2.1
    rw [if_neg (by omega), e, Int.toNat_natCast] at hF
    rw [if_neg (by omega), Int.toNat_natCast, q3]
    have fin : ∀ v : Int, (∀ M', sg_X M M' → sg_CC (1, mv_up S 4 k v).2 M' → F (1, mv_up S 4 k v).1 M') → mv_Wp G 13 [.inr (.inr 6)] (mh l) (mv_up M 13 (sg_pl S k) v) (mv_qv (mh l) fun M2 => mv_qi (mh l) F (some (.inl 1)) (mh l) M2) := by
      intro v hf
      refine cl_forgetBids (mv_qi_i (hf _ (fun a i ha => by rw [mv_up_c (by omega), mv_up_c (by omega)]) (sg_CC_b h (sg_Q_up (by decide)) (fun a i ha => mv_up_c (by omega)) (sg_C_4 hw hC hk) rfl (fun hW => ?_))))
      have : sg_W S (mv_up M 13 (sg_pl S k) v) := sg_W_fr hW (fun c d1 d2 _ i => mv_up_c (by omega))
      exact this
    split
    · rename_i z
      rw [if_pos z] at hF
      refine ⟨by omega, ?_⟩
      split
      · rename_i y
        rw [if_pos y] at hF
        exact mv_qi_i (hF M sg_X_r h)
      · rename_i y
        rw [if_neg y] at hF
        exact ⟨by omega, fin 0 hF⟩
    · rename_i z
      rw [if_neg z] at hF
      refine ⟨by omega, ?_⟩
      split
      · rename_i y
        rw [if_pos y] at hF
        exact mv_qi_i (hF M sg_X_r h)
      · rename_i y
        rw [if_neg y] at hF
        exact ⟨by omega, fin 1 hF⟩
theorem ca_hold (hS : sg_oo c S) (hc : c ≤ 100000) (h : sg_CC S M) {a : Int} (hF : ∀ M', sg_X M M' → sg_CC (sa_hold S a).2 M' → F (sa_hold S a).1 M') : mv_Wp G 120 [.inr (.inr 1), .inl a] (mh l) M (mv_qi (mh l) F) := by
  have hw := hS.1
  unfold sa_hold at hF
  refine vw_X11_hold (cl_unfit ?_)
  split
  · rename_i z
    rw [if_neg (fun y => y z)] at hF
    refine cl_settled hw h (fun M1 x1 CC1 C1 Z1 f6 f7 => cl_bestToHold hw C1 Z1.1 Z1.2.1 Z1.2.2 (fun M2 f2 C2 B2 => mv_qi_i (hF M2 (sg_X_t x1 (fun a i ha => f2 a i (by omega) (by omega) (by omega) (by omega))) ?_)))
    exact sg_CC_q CC1 (fun a i ha => f2 a i (by omega) (by omega) (by omega) (by omega)) (fun _ _ _ => rfl) (sg_K_1 C2 ⟨sg_W_fr Z1.1 (fun c d1 d2 _ i => f2 c i (by omega) (by omega) (by omega) (by omega)), B2, sg_Tk_fr Z1.2.2 (fun i => f2 43 i (by decide) (by decide) (by decide) (by decide))⟩ ((f2 6 6 (by decide) (by decide) (by decide) (by decide)).trans f6) ((f2 6 7 (by decide) (by decide) (by decide) (by decide)).trans f7))
  · rename_i z
    rw [if_pos z] at hF
    exact cl_R hS hc h _ (sg_un_r z) hF
theorem sg_jf_c {len : Int} {r r' : Nat → Int} (h : ∀ i : Nat, (i : Int) < len → r i = r' i) : ∀ n p, sg_jf S len r n p = sg_jf S len r' n p
  | 0, _ => rfl
  | n + 1, p => by
    unfold sg_jf
    by_cases q : len ≤ (p : Int)
    · rw [if_pos (Or.inl q), if_pos (Or.inl q)]
    · rw [h p (by omega), sg_jf_c h n (p + 1)]
theorem sg_kp_i (S : mv_Mem) : sg_sw S (sg_kp (sa_image S).2) := fun a i ha => by
  show (if 40 + a = 35 ∧ i = 0 then 1 else if 40 ≤ 40 + a ∧ 40 + a ≤ 63 then S (40 + a - 40) i else S (40 + a) i) = S a i
  rw [if_neg (fun z => by omega), if_pos ⟨by omega, by omega⟩, show 40 + a - 40 = a by omega]
theorem ca_image (hS : sg_oo c S) (h : sg_CC S M) (hF : ∀ M', sg_X M M' → sg_CC (sa_image S).2 M' → F (sa_image S).1 M') : mv_Wp G 123 [.inr (.inr 1)] (mh l) M (mv_qi (mh l) F) := by
  have hw := hS.1
  refine vw_X11_image (cl_take_i hw h.1.1 (fun M1 f1 C1 => ⟨by decide, mv_qi_i ?_⟩))
  have e8 : (mv_up M1 1 8 1) 8 2 = S 0 0 * S 0 1 := by
    rw [mv_up_c (by decide), f1 8 2 (by decide)]
    exact h.1.1.1.2.2.1
  rw [e8]
  refine hF _ (fun a i ha => by rw [mv_up_c (by omega)]; exact f1 a i (by omega)) ?_
  have hsw : sg_sw S (sa_image S).2 := fun a i ha => by
    show (if a = 35 ∧ i = 0 then 1 else if 40 ≤ a ∧ a ≤ 63 then S (a - 40) i else S a i) = S a i
    rw [if_neg (fun z => by omega), if_neg (by omega)]
  obtain ⟨h1, h2, h3, h4, h5, h6, h7, h8⟩ := h
  refine ⟨sg_sw_K hsw (sg_K_fr h1 (fun a i ha => by rw [mv_up_c (by omega)]; exact f1 a i (by omega))), ?_, fun i hi => ?_, ?_, fun i hi => ?_, fun i hi => ?_, ?_, fun z => ?_⟩
  · rw [mv_up_c (by decide), f1 2 1 (by decide)]
    exact h2
  · rw [mv_up_c (by decide), f1 3 i (by decide)]
    exact h3 i hi
  · rw [mv_up_c (by decide), f1 4 1 (by decide)]
    exact h4
  · rw [mv_up_c (by decide), f1 5 i (by decide)]
    exact h5 i hi
  · rw [mv_up_c (by decide), f1 87 i (by decide)]
    exact h6 i hi
  · show mv_up M1 1 8 1 1 8 = 1
    rw [mv_up_s]
  · exact sg_C_fr (sg_sw_C (sg_kp_i S) C1) (fun c d1 d2 i => mv_up_c (by omega))
theorem ca_on (hS : sg_oo c S) (hc : c ≤ 100000) (h : sg_CC S M) (hF : ∀ M', sg_X M M' → sg_CC (sa_on S).2 M' → F (sa_on S).1 M') : mv_Wp G 124 [.inr (.inr 1)] (mh l) M (mv_qi (mh l) F) := by
  unfold sa_on at hF
  have c1 : M 1 8 = S 35 0 := h.2.2.2.2.2.2.1
  refine vw_X11_on ?_
  rw [c1]
  split
  · rename_i q
    rw [if_pos q] at hF
    exact cl_R hS hc h _ (by decide) hF
  · rename_i q
    rw [if_neg q] at hF
    have e1 : S 35 0 = 1 := by
      rcases hS.2.2.2.2.2.1 with z | z
      · exact absurd z q
      · exact z
    have hK := h.2.2.2.2.2.2.2 e1
    have hwk := hS.2.2.2.2.2.2 e1
    refine cl_take_o hwk hK (fun M1 f1 C1 => cl_forgetWays ?_)
    have e8 : (mv_up (mv_up M1 6 6 0) 6 7 0) 8 2 = S 40 0 * S 40 1 := by
      rw [mv_up_c (by decide), mv_up_c (by decide)]
      exact C1.1.2.2.1
    rw [e8]
    refine mv_qi_i (hF _ (fun a i ha => by rw [mv_up_c (by omega), mv_up_c (by omega)]; exact f1 a i (by omega)) ?_)
    have hsw : sg_sw (sg_kp S) (fun a i => if a ≤ 23 then S (40 + a) i else S a i) := fun a i ha => by
      show (if a ≤ 23 then S (40 + a) i else S a i) = S (40 + a) i
      rw [if_pos ha]
    exact sg_CC_w h (fun a i ha => f1 a i (by omega)) (fun a i ha => if_neg (by omega)) (sg_sw_C hsw C1)
theorem ca_count (hS : sg_oo c S) (h : sg_CC S M) {a : Int} (hF : ∀ M', sg_X M M' → sg_CC (sa_count S a).2 M' → F (sa_count S a).1 M') : mv_Wp G 125 [.inr (.inr 1), .inl a] (mh l) M (mv_qi (mh l) F) := by
  have hw := hS.1
  have hC := h.1.1
  have c0 : M 8 0 = S 0 0 := hC.1.1
  have c1 : M 8 1 = S 0 1 := hC.1.2.1
  have c2 : M 8 4 = S 0 2 := hC.1.2.2.2.2
  have c3 : M 17 0 = S 0 3 := hC.2.2.2.2.1.1
  have c4 : M 8 3 = S 0 6 := hC.1.2.2.2.1
  have c5 : M 30 0 = S 0 5 := hC.2.2.2.2.2.2.2.2.1
  have c8 : M 2 1 = S 30 0 := h.2.1
  have c9 : M 4 1 = S 32 0 := h.2.2.2.1
  unfold sa_count at hF
  refine vw_X11_count ?_
  rw [c0, c1, c2, c3, c4, c5, c8, c9]
  by_cases q0 : a = 0
  · rw [if_pos q0] at hF
    rw [if_pos q0]
    exact mv_qi_i (hF M sg_X_r h)
  rw [if_neg q0] at hF
  rw [if_neg q0]
  by_cases q1 : a = 1
  · rw [if_pos q1] at hF
    rw [if_pos (by omega)]
    exact mv_qi_i (hF M sg_X_r h)
  rw [if_neg q1] at hF
  rw [if_neg (by omega)]
  by_cases q2 : a = 2
  · rw [if_pos q2] at hF
    rw [if_pos (by omega)]
    exact mv_qi_i (hF M sg_X_r h)
  rw [if_neg q2] at hF
  rw [if_neg (by omega)]
  by_cases q3 : a = 3
  · rw [if_pos q3] at hF
    rw [if_pos (by omega)]
    exact mv_qi_i (hF M sg_X_r h)
  rw [if_neg q3] at hF
  rw [if_neg (by omega)]
  by_cases q4 : a = 4
  · rw [if_pos q4] at hF
    rw [if_pos (by omega)]
    exact mv_qi_i (hF M sg_X_r h)
  rw [if_neg q4] at hF
  rw [if_neg (by omega)]
  by_cases q5 : a = 5
  · rw [if_pos q5] at hF
    rw [if_pos (by omega)]
    exact mv_qi_i (hF M sg_X_r h)
  rw [if_neg q5] at hF
  rw [if_neg (by omega)]
  by_cases q6 : a = 6
  · rw [if_pos q6] at hF
    rw [if_pos (by omega)]
    exact cl_settled hw h (fun M1 x1 CC1 C1 Z1 f6 f7 => cl_wasteAcres hw C1 Z1.2.2 (mv_qi_i (hF M1 x1 CC1)))
  rw [if_neg q6] at hF
  rw [if_neg (by omega)]
  by_cases q7 : a = 7
  · rw [if_pos q7] at hF
    rw [if_pos (by omega)]
    exact cl_idleAcres hw hC (mv_qi_i (hF M sg_X_r h))
  rw [if_neg q7] at hF
  rw [if_neg (by omega)]
  by_cases q8 : a = 8
  · rw [if_pos q8] at hF
    rw [if_pos (by omega)]
    exact mv_qi_i (hF M sg_X_r h)
  rw [if_neg q8] at hF
  rw [if_neg (by omega)]
  by_cases q9 : a = 9
  · rw [if_pos q9] at hF
    rw [if_pos (by omega)]
    exact mv_qi_i (hF M sg_X_r h)
  rw [if_neg q9] at hF
  rw [if_neg (by omega)]
  split
  · rw [if_neg (by omega)] at hF
    exact mv_qi_i (hF M sg_X_r h)
  · split
    · rw [if_neg (by omega)] at hF
      exact mv_qi_i (hF M sg_X_r h)
    · rw [if_pos (by omega)] at hF
      have c87 : M 87 (a - 10).toNat = S 34 (a - 10).toNat := h.2.2.2.2.2.1 _ (by omega)
      rw [c87]
      exact ⟨by omega, by omega, mv_qi_i (hF M sg_X_r h)⟩
theorem ca_road (hS : sg_oo c S) (hc : c ≤ 100000) (h : sg_CC S M) {a b d : Int} (ha : mv_R32 a) (hb : mv_R32 b) (hF : ∀ M', sg_X M M' → sg_CC (sa_road S a b d).2 M' → F (sa_road S a b d).1 M') : mv_Wp G 89 [.inr (.inr 1), .inl a, .inl b, .inl d] (mh l) M (mv_qi (mh l) F) := by
  have hw := hS.1
  have hC := h.1.1
  have hr12 := hw.1.2.2.2.2.2.2
  unfold sa_road at hF
  refine vw_X11_road (cl_place hw hC ha (fun q => cl_placeOf hw hC hb (cl_sideTowards_no (Or.inl rfl) ?_)) (fun k hk k48 e1 => cl_place hw hC hb (fun q => cl_sideTowards_no (Or.inr rfl) ?_) (fun k' hk' k48' e2 => cl_sideTowards hw hC hk hk' ?_)))
  · rw [if_pos (Or.inl q)] at hF
    rw [if_pos rfl]
    exact cl_R hS hc h _ (by decide) hF
  · rw [if_pos (Or.inr (Or.inl q))] at hF
    rw [if_pos rfl]
    exact cl_R hS hc h _ (by decide) hF
  · rw [e1, e2, Int.toNat_natCast, Int.toNat_natCast] at hF
    by_cases y0 : sg_dir k k' = -1
    · rw [if_pos (Or.inr (Or.inr y0))] at hF
      rw [if_pos y0]
      exact cl_R hS hc h _ (by decide) hF
    rw [if_neg (by omega)] at hF
    rw [if_neg y0]
    have hr := sg_dir_r k k'
    obtain ⟨dd, hdd⟩ := sg_nat (show 0 ≤ sg_dir k k' by omega)
    rw [hdd, Int.toNat_natCast] at hF
    rw [hdd]
    have hpb := (sg_pb_dir hw hk hk' (show dd < 4 by omega)).2 hdd
    have hhs : sg_has S k dd := Classical.byContradiction (fun z => by rw [sg_pb_no z] at hpb; omega)
    by_cases y1 : d < 0
    · rw [if_pos (by omega)] at hF
      rw [if_pos y1]
      exact cl_R hS hc h _ (by decide) hF
    rw [if_neg y1]
    by_cases y2 : d ≤ 3
    rotate_left
    · rw [if_pos (by omega)] at hF
      rw [if_neg y2]
      exact cl_R hS hc h _ (by decide) hF
    rw [if_neg (by omega)] at hF
    rw [if_pos y2]
    refine cl_roadAt hw hC hk (by omega) ?_
    have era : (if S 5 (4 * k + dd) = 4 then (3 : Int) else S 5 (4 * k + dd)) = sg_ra S k dd := rfl
    rw [era]
    have c83 : M 8 3 = S 0 6 := hC.1.2.2.2.1
    rw [c83]
    have fin : ∀ n : Int, (∀ M', sg_X M M' → sg_CC (mv_up (sg_lay S k dd d) 0 6 n) M' → F (sg_ra S k dd) M') →
        mv_Wp G 8 [.inr (.inr 8), .inl (sg_pl S k : Int), .inl (dd : Int), .inl d] (mh l) (mv_up M 8 3 n) (mv_qv (mh l) fun M20 => mv_Wp G 12 [.inr (.inr 6)] (mh l) M20 (mv_qv (mh l) fun M21 => mv_qi (mh l) F (some (.inl (sg_ra S k dd))) (mh l) M21)) := by
      intro n hf
      have hok : sg_ok (mv_up S 0 6 n) k := hk
      -- the state with another number of roads
      have hC0 : sg_C 0 (mv_up S 0 6 n) (mv_up M 8 3 n) := by
        refine ⟨⟨hC.1.1, hC.1.2.1, hC.1.2.2.1, ?_, hC.1.2.2.2.2⟩, hC.2.1, hC.2.2.1, hC.2.2.2.1, hC.2.2.2.2.1, fun j hj => ?_, hC.2.2.2.2.2.2⟩
        · show mv_up M 8 3 n 8 3 = mv_up S 0 6 n 0 6
          rw [mv_up_s, mv_up_s]
        · obtain ⟨q1, q2, q3, q4, q5, q6, q7, q8⟩ := hC.2.2.2.2.2.1 j hj
          exact ⟨q1, q2, q3, q4, q5, q6, q7, Eq.trans q8 (sg_ys_c (S := S) (S' := mv_up S 0 6 n) (fun i => rfl) _).symm⟩
      refine vw_X0_layRoad ?_
      -- beside does not look at the number of roads
      have hbs : ∀ {F : Int → mv_Mem → Prop}, F (sg_pb S k dd) (mv_up M 8 3 n) → mv_Wp G 5 [.inr (.inr 8), .inl (sg_pl S k : Int), .inl (dd : Int)] (mh l) (mv_up M 8 3 n) (mv_qi (mh l) F) := by
        intro F hf
        refine vw_X0_beside ?_
        have := cl_beside (G := G) (l := l) (F := F) hw hC hk (show dd < 4 by omega)
        have cc1 : (mv_up M 8 3 n) 8 0 = S 0 0 := hC.1.1
        have cc2 : (mv_up M 8 3 n) 8 1 = S 0 1 := hC.1.2.1
        have cc3 : (mv_up M 8 3 n) 9 (sg_pl S k) = ((10 * (k % 8) + k / 8 : Nat) : Int) := (hC.2.1 k hk).1
        obtain ⟨⟨⟨w1, w2⟩, ⟨h1, h2⟩, -⟩, -⟩ := id hw
        obtain ⟨k1, k2⟩ := id hk
        have hp := (sg_pl_lt hw hk).2
        rw [Int.toNat_natCast, cc3, cc1, cc2, sg_td (by omega), sg_tm (by omega)]
        have e1 : ((10 * (k % 8) + k / 8 : Nat) : Int) / 10 = ((k % 8 : Nat) : Int) := by omega
        have e2 : ((10 * (k % 8) + k / 8 : Nat) : Int) % 10 = ((k / 8 : Nat) : Int) := by omega
        rw [e1, e2]
        unfold sg_pb at hf
        refine ⟨by omega, ⟨by decide, by omega⟩, by omega, by decide, ?_⟩
        rcases (show dd = 0 ∨ dd = 1 ∨ dd = 2 ∨ dd = 3 by omega) with rfl | rfl | rfl | rfl
        · simp only [if_true] at hf
          rw [if_pos (by rfl)]
          refine ⟨by omega, ?_⟩
          split
          · rw [if_neg (by omega)] at hf
            exact mv_qi_i hf
          · rw [if_pos (by omega)] at hf
            exact ⟨by omega, mv_qi_i hf⟩
        · simp only [if_true, show ¬ (1 = 0) by decide, if_false] at hf
          rw [if_neg (by decide), if_pos (by rfl)]
          split
          · rw [if_neg (by omega)] at hf
            exact mv_qi_i hf
          · rw [if_pos (by omega)] at hf
            exact ⟨by omega, mv_qi_i hf⟩
        · simp only [if_true, show ¬ (2 = 0) by decide, show ¬ (2 = 1) by decide, if_false] at hf
          rw [if_neg (by decide), if_neg (by decide), if_pos (by rfl)]
          refine ⟨by omega, ?_⟩
          split
          · rw [if_neg (by omega)] at hf
            exact mv_qi_i hf
          · rw [if_pos (by omega)] at hf
            exact ⟨by omega, mv_qi_i hf⟩
        · simp only [show ¬ (3 = 0) by decide, show ¬ (3 = 1) by decide, show ¬ (3 = 2) by decide, if_false] at hf
          rw [if_neg (by decide), if_neg (by decide), if_neg (by decide)]
          split
          · rw [if_neg (by omega)] at hf
            exact mv_qi_i hf
          · rw [if_pos (by omega)] at hf
            exact ⟨by omega, mv_qi_i hf⟩
      obtain ⟨e1', hn⟩ := sg_pb_yes hw hk hhs (show dd < 4 by omega)
      obtain ⟨dd1, dd2⟩ := sg_dd_lt (show dd < 4 by omega)
      have hp := (sg_pl_lt hw hk).2
      have hq := (sg_pl_lt hw hn).2
      refine hbs ?_
      rw [if_neg (by omega), e1', sg_xor1 (by omega), show Int.toNat ((sg_pl S k : Int) * 4 + (dd : Int)) = 4 * sg_pl S k + dd by omega, show Int.toNat ((sg_pl S (sg_nx k dd) : Int) * 4 + (sg_dd dd : Int)) = 4 * sg_pl S (sg_nx k dd) + sg_dd dd by omega]
      have done : ∀ c' : Int, c' = (if d = 3 then 4 else d) → mv_Wp G 12 [.inr (.inr 6)] (mh l) (mv_up (mv_up (mv_up M 8 3 n) 14 (4 * sg_pl S k + dd) d) 14 (4 * sg_pl S (sg_nx k dd) + sg_dd dd) c') (mv_qv (mh l) fun M21 => mv_qi (mh l) F (some (.inl (sg_ra S k dd))) (mh l) M21) := by
        intro c' hc'
        refine cl_forgetWays (mv_qi_i (hf _ (fun a i ha => by rw [mv_up_c (by omega), mv_up_c (by omega), mv_up_c (by omega), mv_up_c (by omega), mv_up_c (by omega)]) (sg_CC_w h (fun a i ha => by rw [mv_up_c (by omega), mv_up_c (by omega), mv_up_c (by omega)]) (fun a i ha => ?_) ?_)))
        · rw [mv_up_c (by omega)]
          exact sg_lay_o (by omega)
        · have L := sg_C_lay hw hC hk (show dd < 4 by omega) hhs hc'
          refine ⟨⟨L.1.1, L.1.2.1, L.1.2.2.1, ?_, L.1.2.2.2.2⟩, L.2.1, L.2.2.1, L.2.2.2.1, L.2.2.2.2.1, fun j hj => ?_, L.2.2.2.2.2.2⟩
          · show mv_up (mv_up (mv_up M 8 3 n) 14 _ d) 14 _ c' 8 3 = mv_up (sg_lay S k dd d) 0 6 n 0 6
            rw [mv_up_s, mv_up_c (by decide), mv_up_c (by decide), mv_up_s]
          · obtain ⟨q1, q2, q3, q4, q5, q6, q7, q8⟩ := L.2.2.2.2.2.1 j hj
            exact ⟨q1, q2, q3, q4, q5, q6, q7, Eq.trans q8 (sg_ys_c (S := sg_lay S k dd d) (S' := mv_up (sg_lay S k dd d) 0 6 n) (fun i => rfl) _).symm⟩
      refine ⟨by omega, by omega, by omega, by omega, by omega, ?_⟩
      split
      · rename_i q
        exact ⟨by omega, mv_qv_i (done 4 (by rw [if_pos q]))⟩
      · rename_i q
        exact ⟨by omega, mv_qv_i (done d (by rw [if_neg q]))⟩
    by_cases y3 : sg_ra S k dd = 0
    · rw [if_pos y3]
      by_cases y4 : d = 0
      · rw [if_neg (fun z => z.2.1 y4), if_pos y4, if_pos y3] at hF
        rw [if_pos y4, if_pos y4, if_pos y3]
        exact ⟨by omega, by omega, fin _ hF⟩
      · rw [if_neg y4]
        by_cases y5 : S 0 6 < 12
        · rw [if_neg (fun z => by omega), if_neg y4, if_pos y3] at hF
          rw [if_pos y5, if_neg y4, if_pos y3]
          exact ⟨by omega, by omega, fin _ hF⟩
        · rw [if_pos ⟨y3, y4, by omega⟩] at hF
          rw [if_neg y5]
          exact cl_R hS hc h _ (by decide) hF
    · rw [if_neg (fun z => y3 z.1)] at hF
      rw [if_neg y3]
      by_cases y4 : d = 0
      · rw [if_pos y4, if_neg y3] at hF
        rw [if_pos y4, if_neg y3]
        exact ⟨by omega, by omega, fin _ hF⟩
      · rw [if_neg y4, if_neg y3] at hF
        rw [if_neg y4, if_neg y3]
        exact ⟨by omega, by omega, fin _ hF⟩
/-! reading a text -/
theorem sg_pr_c {t t' : Nat → Int} {n : Nat} (h : ∀ i, i < n → t i = t' i) : ∀ (f i : Nat) (w line col : Int), i + f = n → sg_pr t n f i w line col = sg_pr t' n f i w line col
  | 0, _, _, _, _, _ => rfl
  | f + 1, i, w, line, col, hi => by
    unfold sg_pr
    rw [h i (by omega), sg_pr_c h f (i + 1) col (line + 1) 0 (by omega), sg_pr_c h f (i + 1) w line (col + 1) (by omega)]
theorem sg_rdS_c {t t' : Nat → Int} {n W H : Nat} (h : ∀ i, i < n → t i = t' i) (hn : n + 1 = H * (W + 1)) : sg_rdS S t W H = sg_rdS S t' W H := by
  funext a i
  unfold sg_rdS
  by_cases q : i % 8 < W ∧ i / 8 < H
  · have hlt : i / 8 * (W + 1) + i % 8 < n := by
      have z : (i / 8 + 1) * (W + 1) ≤ H * (W + 1) := Nat.mul_le_mul_right _ (by omega)
      rw [Nat.succ_mul] at z
      omega
    rw [h _ hlt]
  · rw [if_neg q, if_neg q]
theorem ca_read (hS : sg_oo c S) (h : sg_CC S M) (hF : ∀ M', sg_X M M' → sg_CC (sa_read S).2 M' → F (sa_read S).1 M') : mv_Wp G 87 [.inr (.inr 1)] (mh l) M (mv_qi (mh l) F) := by
  have hw := hS.1
  have hC := h.1.1
  have hl := hS.2.1
  obtain ⟨n, hn⟩ := sg_nat hl.1
  have c2 : M 2 1 = (n : Int) := h.2.1.trans hn
  have ht : ∀ i, i < n → M 3 i = S 31 i := fun i hi => h.2.2.1 i (by omega)
  have ep : sg_prs (M 3) n = sg_prs (S 31) n := sg_pr_c ht n 0 8 0 0 (by omega)
  unfold sa_read at hF
  rw [hn, Int.toNat_natCast] at hF
  refine vw_X11_read (cl_firstFault c2 (by omega) ?_)
  rw [ep]
  rcases sg_prs_c (S 31) n with ⟨j, hj, e⟩ | ⟨W, H, e, tx⟩
  · rw [e] at hF ⊢
    have e1 : ¬ (((j : Int), (0 : Int), (0 : Int)).1 = -1) := by
      show ¬ (j : Int) = -1
      omega
    rw [if_neg e1] at hF
    rw [if_neg e1]
    refine ⟨by show -2147483648 ≤ -20 - (j : Int) ∧ -20 - (j : Int) ≤ 2147483647; omega, mv_qi_i (hF _ (fun a i ha => mv_up_c (by omega)) ?_)⟩
    have hsw : sg_sw S (mv_up S 30 0 0) := fun b i hb => mv_up_c (by omega)
    obtain ⟨h1, h2, h3, h4, h5, h6, h7, h8⟩ := h
    refine ⟨sg_sw_K hsw (sg_K_fr h1 (fun a i ha => mv_up_c (by omega))), ?_, fun i hi => ?_, h4, h5, h6, h7, fun z => by dsimp only; rw [sg_kp_up (by decide)]; exact sg_C_fr (h8 z) (fun c d1 d2 i => mv_up_c (by omega))⟩
    · show mv_up M 2 1 0 2 1 = mv_up S 30 0 0 30 0
      rw [mv_up_s, mv_up_s]
    · have hi : (i : Int) < mv_up S 30 0 0 30 0 := hi
      rw [mv_up_s] at hi
      omega
  · rw [e] at hF ⊢
    rw [if_pos rfl] at hF
    rw [if_pos rfl]
    dsimp only at hF
    rw [Int.toNat_natCast, Int.toNat_natCast] at hF
    have txM : sg_tx (M 3) n W H := by
      obtain ⟨t1, t2, t3, t4, t5⟩ := tx
      refine ⟨t1, t2, t3, fun y x hy hx => ?_, fun y hy => ?_⟩
      · have hlt : y * (W + 1) + x < n := by
          have z : (y + 1) * (W + 1) ≤ H * (W + 1) := Nat.mul_le_mul_right _ (by omega)
          rw [Nat.succ_mul] at z
          omega
        rw [ht _ hlt]
        exact t4 y x hy hx
      · have hlt : y * (W + 1) + W < n := by
          have z : (y + 1 + 1) * (W + 1) ≤ H * (W + 1) := Nat.mul_le_mul_right _ (by omega)
          rw [Nat.succ_mul, Nat.succ_mul] at z
          omega
        rw [ht _ hlt]
        exact t5 y hy
    refine cl_layOut hw hC c2 (by omega) txM (fun M1 f1 C1 => cl_forgetWays ?_)
    rw [sg_rdS_c ht tx.2.2.1] at C1
    have e8 : (mv_up (mv_up (mv_up (mv_up M1 30 0 0) 2 1 0) 6 6 0) 6 7 0) 8 2 = (W : Int) * (H : Int) := by
      rw [mv_up_c (by decide), mv_up_c (by decide), mv_up_c (by decide)]
      exact C1.1.2.2.1
    rw [e8]
    refine mv_qi_i (hF _ (fun a i ha => by rw [mv_up_c (by omega), mv_up_c (by omega), mv_up_c (by omega), mv_up_c (by omega)]; exact f1 a i (by omega)) ?_)
    have hsw : sg_sw (sg_rdS S (S 31) W H) (mv_up (sg_rdS S (S 31) W H) 30 0 0) := fun b i hb => mv_up_c (by omega)
    have hs : ∀ a i, 30 ≤ a → sg_rdS S (S 31) W H a i = S a i := fun a i ha => by
      unfold sg_rdS
      rw [if_neg (by omega), if_neg (by omega), if_neg (by omega), if_neg (by omega)]
    have fr : ∀ a i, ¬ (8 ≤ a ∧ a ≤ 14) → a ≠ 30 → a ≠ 2 → a ≠ 6 → (mv_up (mv_up (mv_up (mv_up M1 30 0 0) 2 1 0) 6 6 0) 6 7 0) a i = M a i := fun a i a1 a2 a3 a4 => by
      rw [mv_up_c a4, mv_up_c a4, mv_up_c a3, mv_up_c a2]
      exact f1 a i a1
    obtain ⟨h1, h2, h3, h4, h5, h6, h7, h8⟩ := h
    refine ⟨sg_sw_K hsw (sg_K_0 (sg_C_fr C1 (fun c d1 d2 i => ?_)) ?_ ?_), ?_, fun i hi => ?_, ?_, fun i hi => ?_, fun i hi => ?_, ?_, fun z => ?_⟩
    · rw [mv_up_c (by omega), mv_up_c (by omega), mv_up_c (by omega)]
    · rw [mv_up_j (by decide), mv_up_s]
    · rw [mv_up_s]
    · rw [mv_up_c (by decide), mv_up_c (by decide), mv_up_s, mv_up_s]
    · rw [mv_up_s] at hi
      omega
    · rw [fr 4 1 (by decide) (by decide) (by decide) (by decide), mv_up_c (by decide), hs 32 0 (by decide)]
      exact h4
    · rw [mv_up_c (by decide), hs 32 0 (by decide)] at hi
      rw [fr 5 i (by decide) (by decide) (by decide) (by decide), mv_up_c (by decide), hs 33 i (by decide)]
      exact h5 i hi
    · rw [fr 87 i (by decide) (by decide) (by decide) (by decide), mv_up_c (by decide), hs 34 i (by decide)]
      exact h6 i hi
    · rw [fr 1 8 (by decide) (by decide) (by decide) (by decide), mv_up_c (by decide), hs 35 0 (by decide)]
      exact h7
    · rw [mv_up_c (by decide), hs 35 0 (by decide)] at z
      have e : sg_kp (mv_up (sg_rdS S (S 31) W H) 30 0 0) = sg_kp S := by
        funext a i
        exact (mv_up_c (by omega)).trans (hs (40 + a) i (by omega))
      rw [e]
      exact sg_C_fr (h8 z) (fun c d1 d2 i => fr c i (by omega) (by omega) (by omega) (by omega))
end CE
