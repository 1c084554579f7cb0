/-! THE MODEL's CALLS: taxes, plans' gains, owners, rows, counts -/
section MH
variable {S : mv_Mem} {G : mv_G} {l c : Nat} {M : mv_Mem} {F : Int → mv_Mem → Prop}
theorem ma_tax (hS : sg_oo c S) (hc : c ≤ 100000) (h : sg_MM S M) {a v : Int} (hF : ∀ M', sg_Y M M' → sg_MM (sa_tax S a v).2 M' → F (sa_tax S a v).1 M') : mv_Wp G 164 [.inr (.inr 88), .inl a, .inl v] (mh l) M (mv_qi (mh l) F) := by
  have hw := hS.1
  have hM := h.1
  have hu := sg_nu hw
  unfold sa_tax at hF
  refine vw_X12_tax ?_
  by_cases z : a = -1
  · rw [if_pos z] at hF
    rw [if_pos z, if_neg (by omega)]
    refine md_outOf ?_
    split
    · rename_i y
      rw [if_neg (fun t => t y)] at hF
      have c1 : M 88 37 = S 0 4 := hM.1.2.2.2.2.1
      rw [if_neg (by omega), if_neg (by omega), c1]
      refine mv_qi_i (hF _ (fun b i hb => mv_up_c (by omega)) (sg_MM_q h (fun b i hb => mv_up_n (by omega)) (fun b i hb => mv_up_c (by omega)) ⟨⟨hM.1.1, hM.1.2.1, hM.1.2.2.1, hM.1.2.2.2.1, ?_, hM.1.2.2.2.2.2⟩, hM.2⟩ ?_))
      · show mv_up M 88 37 v 88 37 = mv_up S 0 4 v 0 4
        rw [mv_up_s, mv_up_s]
      · have : sg_Rl S (mv_up M 88 37 v) (S 0 6).toNat := sg_Rl_fr h.2.1 (mv_up_j (by decide)) (fun b i h1 h2 => mv_up_c (by omega))
        exact this
    · rename_i y
      rw [if_pos y] at hF
      exact md_no2 hS hc h _ (sg_un_r y) hF
  · rw [if_neg z] at hF
    rw [if_neg z]
    refine md_isUse hM (fun q => ?_) (fun q => ?_)
    · rw [if_neg (fun t => t q)] at hF
      rw [if_neg (by decide), if_pos q.1]
      refine md_outOf ?_
      split
      · rename_i y
        rw [if_neg (fun t => t y)] at hF
        obtain ⟨u, hu2⟩ := sg_nat q.1
        subst hu2
        rw [Int.toNat_natCast] at hF
        have c1 : M 110 u = S 13 u := (hM.2.2.2.2.2.2.1 u (by omega)).2.2.2.2.2.1
        rw [if_pos (by omega), if_pos (by omega), Int.toNat_natCast, c1]
        exact ⟨by omega, by omega, mv_qi_i (hF _ (fun b i hb => mv_up_c (by omega)) (sg_MM_q h (sg_P_up (by decide)) (fun b i hb => mv_up_c (by omega)) (sg_Mo_13 hM) (sg_Rl_up (S := S) (by decide) h.2.1)))⟩
      · rename_i y
        rw [if_pos y] at hF
        exact md_no2 hS hc h _ (sg_un_r y) hF
    · rw [if_pos q] at hF
      rw [if_pos rfl]
      exact md_no2 hS hc h _ (by decide) hF
theorem ma_own (hS : sg_oo c S) (hc : c ≤ 100000) (h : sg_MM S M) {a b : Int} (ha : mv_R32 a) (hF : ∀ M', sg_Y M M' → sg_MM (sa_own S a b).2 M' → F (sa_own S a b).1 M') : mv_Wp G 210 [.inr (.inr 88), .inl a, .inl b] (mh l) M (mv_qi (mh l) F) := by
  have hw := hS.1
  have hM := h.1
  unfold sa_own at hF
  refine vw_X12_own (md_acreOf hw hM ha (fun q => ?_) (fun k hk k48 e => ?_))
  · rw [if_pos q] at hF
    rw [if_neg (by decide)]
    exact md_no2 hS hc h _ (by decide) hF
  · have h3 := hw.2.1.2.2.1 k k48
    have c93 : M 93 k = (if S 3 k < 0 then -9 else S 3 k) := (hM.2.1 k hk).2.2.1
    rw [if_neg (by omega), e, Int.toNat_natCast] at hF
    rw [if_pos (by omega), Int.toNat_natCast]
    refine md_outOf ?_
    split
    · rename_i z
      rw [if_neg (fun y => y z)] at hF
      have hb := sg_un_0 z
      have put : ∀ v, v = (if b < 0 then (-9 : Int) else b) → sg_MM (mv_up S 3 k b) (mv_up M 93 k v) := fun v hv => sg_MM_q h (sg_P_up (by decide)) (fun b i hb => mv_up_c (by omega)) ⟨hM.1, fun j hj => ⟨(hM.2.1 j hj).1, (hM.2.1 j hj).2.1, by
        show mv_up M 93 k v 93 j = (if mv_up S 3 k b 3 j < 0 then -9 else mv_up S 3 k b 3 j)
        by_cases y : j = k
        · rw [y, mv_up_s, mv_up_s]
          exact hv
        · rw [mv_up_j y, mv_up_j y]
          exact (hM.2.1 j hj).2.2.1, (hM.2.1 j hj).2.2.2⟩, hM.2.2⟩ (sg_Rl_up (S := S) (by decide) h.2.1)
      split
      · rename_i y
        rw [c93]
        refine ⟨by omega, ?_⟩
        by_cases t : S 3 k = b
        · rw [if_pos t] at hF
          rw [if_neg (show ¬ S 3 k < 0 by omega), if_pos t]
          exact mv_qi_i (hF M sg_Y_r h)
        · rw [if_neg t] at hF
          rw [if_neg (show ¬ (if S 3 k < 0 then (-9 : Int) else S 3 k) = b by split <;> omega)]
          exact ⟨by omega, mv_qi_i (hF _ (fun b i hb => mv_up_c (by omega)) (put b (by rw [if_neg (by omega)])))⟩
      · rename_i y
        rw [c93]
        refine ⟨by omega, ?_⟩
        by_cases t : S 3 k = b
        · rw [if_pos t] at hF
          rw [if_pos (show S 3 k < 0 by omega), if_pos rfl]
          exact mv_qi_i (hF M sg_Y_r h)
        · rw [if_neg t] at hF
          rw [if_neg (show ¬ (if S 3 k < 0 then (-9 : Int) else S 3 k) = -9 by split <;> omega)]
          exact ⟨by omega, mv_qi_i (hF _ (fun b i hb => mv_up_c (by omega)) (put (-9) (by rw [if_pos (by omega)])))⟩
    · rename_i z
      rw [if_pos z] at hF
      exact md_no2 hS hc h _ (sg_un_r z) hF
theorem ma_held (hS : sg_oo c S) (hc : c ≤ 100000) (h : sg_MM S M) {a b : Int} (ha : mv_R32 a) (hb : b = 0 ∨ b = 1) (hF : ∀ M', sg_Y M M' → sg_MM (sa_held S a b).2 M' → F (sa_held S a b).1 M') : mv_Wp G 211 [.inr (.inr 88), .inl a, .inl b] (mh l) M (mv_qi (mh l) F) := by
  have hw := hS.1
  have hM := h.1
  have eb : (if b = 0 then (0 : Int) else 1) = b := by split <;> omega
  unfold sa_held at hF
  rw [eb] at hF
  refine vw_X12_held (md_acreOf hw hM ha (fun q => ?_) (fun k hk k48 e => ?_))
  · rw [if_pos q] at hF
    rw [if_neg (by decide)]
    exact md_no2 hS hc h _ (by decide) hF
  · have c95 : M 95 k = S 4 k := (hM.2.1 k hk).2.2.2
    rw [if_neg (by omega), e, Int.toNat_natCast] at hF
    rw [if_pos (by omega), Int.toNat_natCast, c95]
    refine ⟨by omega, ?_⟩
    split
    · rename_i y
      rw [if_pos y] at hF
      exact mv_qi_i (hF M sg_Y_r h)
    · rename_i y
      rw [if_neg y] at hF
      exact ⟨⟨by omega, hb⟩, mv_qi_i (hF _ (fun b i hb => mv_up_c (by omega)) (sg_MM_q h (sg_P_up (by decide)) (fun b i hb => mv_up_c (by omega)) (sg_Mo_4 hM hk) (sg_Rl_up (S := S) (by decide) h.2.1)))⟩
theorem ma_hold (hS : sg_oo c S) (hc : c ≤ 100000) (h : sg_MM S M) {a : Int} (hF : ∀ M', sg_Y M M' → sg_MM (sa_hold S a).2 M' → F (sa_hold S a).1 M') : mv_Wp G 213 [.inr (.inr 88), .inl a] (mh l) M (mv_qi (mh l) F) := by
  have hw := hS.1
  unfold sa_hold at hF
  refine vw_X12_hold (md_outOf ?_)
  split
  · rename_i z
    rw [if_neg (fun y => y z)] at hF
    have hr := sg_un_0 z
    refine md_found hS h (fun M1 y1 m1 w1 d1 => md_holds hw m1.1 m1.2.1 d1 hr.1 (fun M2 f2 o2 => hF M2 (sg_Y_t y1 (fun b i hb => f2 b i (by omega) (by omega) (by omega) (by omega) (by omega) (by omega) (by omega))) ?_))
    exact sg_MM_q m1 (fun b i hb => f2 b i (by omega) (by omega) (by omega) (by omega) (by omega) (by omega) (by omega)) (fun _ _ _ => rfl) o2 (sg_Rl_fr m1.2.1 (f2 88 17 (by decide) (by decide) (by decide) (by decide) (by decide) (by decide) (by decide)) (fun b i h1 h2 => f2 b i (by omega) (by omega) (by omega) (by omega) (by omega) (by omega) (by omega)))
  · rename_i z
    rw [if_pos z] at hF
    exact md_no2 hS hc h _ (sg_un_r z) hF
theorem ma_falls (hS : sg_oo c S) (hc : c ≤ 100000) (h : sg_MM S M) {a v : Int} (hF : ∀ M', sg_Y M M' → sg_MM (sa_falls S a v).2 M' → F (sa_falls S a v).1 M') : mv_Wp G 209 [.inr (.inr 88), .inl a, .inl v] (mh l) M (mv_qi (mh l) F) := by
  have hw := hS.1
  have hM := h.1
  unfold sa_falls at hF
  refine vw_X12_falls (md_isUse hM (fun q => ?_) (fun q => ?_))
  · rw [if_neg (fun z => z q)] at hF
    rw [if_neg (by decide)]
    refine md_outOf ?_
    split
    · rename_i z
      rw [if_neg (fun y => y z)] at hF
      have hr := sg_un_0 z
      obtain ⟨u, hu2⟩ := sg_nat q.1
      subst hu2
      rw [Int.toNat_natCast] at hF
      exact md_found hS h (fun M1 y1 m1 w1 d1 => md_fall hw m1.1 m1.2.1 d1 q.2 hr (fun M2 f2 => hF M2 (sg_Y_t y1 (fun b i hb => f2 b i (by omega) (by omega) (by omega) (by omega))) (sg_MM_fq m1 (fun b i _ h1 h2 h3 h4 => f2 b i h1 h2 h3 (by omega)))))
    · rename_i z
      rw [if_pos z] at hF
      exact md_no2 hS hc h _ (sg_un_r z) hF
  · rw [if_pos q] at hF
    rw [if_pos rfl]
    exact md_no2 hS hc h _ (by decide) hF
theorem ma_count (hS : sg_oo c S) (h : sg_MM S M) {a : Int} (hF : ∀ M', sg_Y M M' → sg_MM (sa_count S a).2 M' → F (sa_count S a).1 M') : mv_Wp G 221 [.inr (.inr 88), .inl a] (mh l) M (mv_qi (mh l) F) := by
  have hw := hS.1
  have hM := h.1
  have hr12 := hw.1.2.2.2.2.2.2
  obtain ⟨c0, c1, c2, c3, -, c5⟩ := hM.1
  have c4 : M 88 17 = S 0 6 := h.2.1.2.1.trans (by omega)
  have c8 : M 88 7 = S 30 0 := h.2.2.1
  have c9 : M 88 60 = S 32 0 := h.2.2.2.2.1
  unfold sa_count at hF
  refine vw_X12_count (md_isIn (fun q => ?_) (fun q => ?_))
  · rw [if_neg (by decide)]
    rw [if_neg (by omega), if_neg (by omega), if_neg (by omega), if_neg (by omega), if_neg (by omega), if_neg (by omega), if_neg (by omega), if_neg (by omega), if_neg (by omega), if_neg (by omega), if_pos q] at hF
    have c89 : M 89 (a - 10).toNat = S 34 (a - 10).toNat := h.2.2.2.2.2.2.1 _ (by omega)
    rw [c89]
    exact ⟨by omega, by omega, mv_qi_i (hF M sg_Y_r h)⟩
  · rw [if_pos rfl, c0, c1, c2, c3, c4, c5, c8, c9]
    by_cases q0 : a = 0
    · rw [if_pos q0] at hF
      rw [if_pos q0]
      exact mv_qi_i (hF M sg_Y_r h)
    rw [if_neg q0] at hF
    rw [if_neg q0]
    by_cases q1 : a = 1
    · rw [if_pos q1] at hF
      rw [if_pos (by omega)]
      exact mv_qi_i (hF M sg_Y_r h)
    rw [if_neg q1] at hF
    rw [if_neg (by omega)]
    by_cases q2 : a = 2
    · rw [if_pos q2] at hF
      rw [if_pos (by omega)]
      exact mv_qi_i (hF M sg_Y_r h)
    rw [if_neg q2] at hF
    rw [if_neg (by omega)]
    by_cases q3 : a = 3
    · rw [if_pos q3] at hF
      rw [if_pos (by omega)]
      exact mv_qi_i (hF M sg_Y_r h)
    rw [if_neg q3] at hF
    rw [if_neg (by omega)]
    by_cases q4 : a = 4
    · rw [if_pos q4] at hF
      rw [if_pos (by omega)]
      exact mv_qi_i (hF M sg_Y_r h)
    rw [if_neg q4] at hF
    rw [if_neg (by omega)]
    by_cases q5 : a = 5
    · rw [if_pos q5] at hF
      rw [if_pos (by omega)]
      exact mv_qi_i (hF M sg_Y_r h)
    rw [if_neg q5] at hF
    rw [if_neg (by omega)]
    by_cases q6 : a = 6
    · rw [if_pos q6] at hF
      rw [if_pos (by omega)]
      refine md_found hS h (fun M1 y1 m1 w1 d1 => ?_)
      have fin := hF M1 y1 m1
      have hb := fun n => sg_fo_b (S := S) (f := fun k x => if sg_tk S k = -1 then x + 1 else x) (a := 0) (b := 1) (by omega) (fun k x hk => by split <;> omega) n
      have key : ∀ (n k : Nat), k + n = 48 → mv_Run G 221 136 7420 116 [(0, .inr (.inr 88)), (2, .inl (sg_fo S (fun k x => if sg_tk S k = -1 then x + 1 else x) 0 k)), (3, .inl (k : Int))] [] (mh l) M1 (mv_qi (mh l) F) := by
        intro n
        induction n with
        | zero =>
          intro k hk
          refine vr_X12_count_116 ?_
          rw [if_pos (by omega), show k = 48 by omega]
          exact mv_qi_i fin
        | succ n ih =>
          intro k hk
          refine vr_X12_count_116 ?_
          have h1 := hb k
          have K := ih (k + 1) (by omega)
          rw [if_neg (by omega)]
          refine md_isAcre hw m1.1 (fun hok => ?_) (fun hok => ?_)
          · rw [sg_fo_s hok] at K
            have t1 := sg_tk_lo hw k
            have m1' : sg_u3 (sg_tk S k) = if sg_tk S k = -1 then -9 else sg_tk S k / 3 := rfl
            rw [if_neg (by decide), Int.toNat_natCast, ((d1 k (by omega)).1 hok).1]
            refine ⟨by omega, ?_⟩
            by_cases z : sg_tk S k = -1
            · rw [if_pos z] at K
              rw [m1', if_pos z, if_pos rfl]
              exact ⟨by omega, by omega, K⟩
            · rw [if_neg z] at K
              rw [m1', if_neg z, if_neg (by omega), Int.add_zero]
              exact ⟨by omega, by omega, K⟩
          · rw [sg_fo_n hok] at K
            rw [if_pos rfl, Int.add_zero]
            exact ⟨by omega, by omega, K⟩
      exact key 48 0 (by omega)
    rw [if_neg q6] at hF
    rw [if_neg (by omega)]
    by_cases q7 : a = 7
    · rw [if_pos q7] at hF
      rw [if_pos (by omega)]
      have fin := hF M sg_Y_r h
      have h4 : ∀ k, sg_ok S k → 0 ≤ S 4 k ∧ S 4 k ≤ 1 := fun k hk => hw.2.1.2.2.2.1 k (sg_ok_48 hw hk)
      have hb := fun n => sg_fo_b (S := S) (f := fun k x => x + S 4 k) (a := 0) (b := 1) (by omega) (fun k x hk => by have := h4 k hk; omega) n
      have key : ∀ (n k : Nat), k + n = 48 → mv_Run G 221 136 7420 159 [(0, .inr (.inr 88)), (2, .inl (sg_fo S (fun k x => x + S 4 k) 0 k)), (3, .inl (k : Int))] [] (mh l) M (mv_qi (mh l) F) := by
        intro n
        induction n with
        | zero =>
          intro k hk
          refine vr_X12_count_159 ?_
          rw [if_pos (by omega), show k = 48 by omega]
          exact mv_qi_i fin
        | succ n ih =>
          intro k hk
          refine vr_X12_count_159 ?_
          have h1 := hb k
          have K := ih (k + 1) (by omega)
          rw [if_neg (by omega), Int.toNat_natCast]
          refine ⟨by omega, ?_⟩
          by_cases hok : sg_ok S k
          · rw [sg_fo_s hok] at K
            have h4k := h4 k hok
            rw [(hM.2.1 k hok).2.2.2]
            by_cases z : S 4 k = 0
            · rw [z] at K
              rw [if_pos z]
              exact ⟨by omega, by omega, K⟩
            · rw [show S 4 k = 1 by omega] at K
              rw [if_neg z]
              exact ⟨by omega, by omega, K⟩
          · rw [sg_fo_n hok] at K
            rw [hM.2.2.1 k (by omega) hok, if_pos rfl, Int.add_zero]
            exact ⟨by omega, by omega, K⟩
      exact key 48 0 (by omega)
    rw [if_neg q7] at hF
    rw [if_neg (by omega)]
    by_cases q8 : a = 8
    · rw [if_pos q8] at hF
      rw [if_pos (by omega)]
      exact mv_qi_i (hF M sg_Y_r h)
    rw [if_neg q8] at hF
    rw [if_neg (by omega)]
    by_cases q9 : a = 9
    · rw [if_pos q9] at hF
      rw [if_pos (by omega)]
      exact mv_qi_i (hF M sg_Y_r h)
    rw [if_neg q9, if_neg q] at hF
    rw [if_neg (by omega)]
    exact mv_qi_i (hF M sg_Y_r h)
end MH
