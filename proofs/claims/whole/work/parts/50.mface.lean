/-! THE MODEL's CALLS: gains, the best set, rows -/
section MI
variable {S : mv_Mem} {G : mv_G} {l c : Nat} {M : mv_Mem} {F : Int → mv_Mem → Prop}
theorem md_isPlan (hM : sg_Mo S M) {p : Int} (h1 : 0 ≤ p ∧ p < S 0 5 → F 1 M) (h0 : ¬ (0 ≤ p ∧ p < S 0 5) → F 0 M) : mv_Wp G 202 [.inr (.inr 88), .inl p] (mh l) M (mv_qi (mh l) F) := by
  refine vw_X12_isPlan ?_
  have c1 : M 88 55 = S 0 5 := hM.1.2.2.2.2.2
  rw [c1]
  split
  · exact ⟨by decide, mv_qi_i (h0 (by omega))⟩
  · split
    · exact ⟨by decide, mv_qi_i (h0 (by omega))⟩
    · exact ⟨by decide, mv_qi_i (h1 (by omega))⟩
theorem md_isTaken (hw : sg_wf S) (hM : sg_Mo S M) {n p : Nat} (hR : sg_Rl S M n) (hp : (p : Int) < S 0 5) (h1 : sg_bu S p → F 1 M) (h0 : ¬ sg_bu S p → F 0 M) : mv_Wp G 203 [.inr (.inr 88), .inl (p : Int)] (mh l) M (mv_qi (mh l) F) := by
  have hp8 := hw.1.2.2.2.2.2.1
  obtain ⟨p1, p2, p3, -⟩ := sg_wfp hw hp
  obtain ⟨q1, q2, q3, q4⟩ := hM.2.2.2.2.2.2.2.2.2.2 p hp
  have ht := (hw.2.2.2.2.2.2.1 p hp).1.1
  have c125 : M 125 p = (((S 20 p).toNat : Nat) : Int) := q1.trans (by omega)
  refine vw_X12_isTaken ?_
  rw [Int.toNat_natCast, c125, q2]
  refine ⟨by omega, by omega, md_roadOf hR.1 hR.2.1 (fun r hr hrp => ?_) (fun hno => ?_)⟩
  · rw [if_neg (by omega)]
    obtain ⟨g1, g2⟩ := sg_Rl_k hw hR p1 p2 p3 hr hrp
    refine ⟨by decide, mv_qi_i (h1 ?_)⟩
    show S 5 (4 * (S 20 p).toNat + (S 21 p).toNat) ≠ 0
    rcases g2 with ⟨_, g⟩ | ⟨_, g⟩
    · omega
    · rw [g]
      split <;> omega
  · rw [if_pos (by decide)]
    refine ⟨by decide, mv_qi_i (h0 (fun z => ?_))⟩
    obtain ⟨r, r1, r2⟩ := hR.2.2.2.1 _ _ p1 p2 p3 z
    exact hno r r1 r2
theorem md_costOf (hw : sg_wf S) (hM : sg_Mo S M) {s : Nat} (hs : s < 256) (h : F (sg_co S s (S 0 5).toNat) M) : mv_Wp G 206 [.inr (.inr 88), .inl (s : Int)] (mh l) M (mv_qi (mh l) F) := by
  have hp8 := hw.1.2.2.2.2.2.1
  have c1 : M 88 55 = S 0 5 := hM.1.2.2.2.2.2
  have hb : ∀ n : Nat, (n : Int) ≤ S 0 5 → 0 ≤ sg_co S s n ∧ sg_co S s n ≤ 99999 * (n : Int) := by
    intro n
    induction n with
    | zero => intro _; exact ⟨Int.le_refl _, Int.le_refl _⟩
    | succ n ih =>
      intro hn
      have h1 := ih (by omega)
      have h2 := sg_wfp hw (p := n) (by omega)
      show 0 ≤ sg_if _ _ _ ∧ sg_if _ _ _ ≤ _
      by_cases q : sg_bt s n
      · rw [sg_if_y q]
        omega
      · rw [sg_if_n q]
        omega
  have key : ∀ (n p : Nat), ((p + n : Nat) : Int) = S 0 5 → mv_Run G 206 136 7420 4 [(0, .inr (.inr 88)), (1, .inl (s : Int)), (2, .inl (sg_co S s p)), (3, .inl (p : Int))] [] (mh l) M (mv_qi (mh l) F) := by
    intro n
    induction n with
    | zero =>
      intro p hn
      refine vr_X12_costOf_4 ?_
      rw [c1, if_pos (by omega)]
      have e : p = (S 0 5).toNat := by omega
      subst e
      exact mv_qi_i h
    | succ n ih =>
      intro p hn
      refine vr_X12_costOf_4 ?_
      have hpl : (p : Int) < S 0 5 := by omega
      have c2 : M 128 p = S 23 p := (hM.2.2.2.2.2.2.2.2.2.2 p hpl).2.2.2
      have h1 := hb p (by omega)
      have h2 := sg_wfp hw hpl
      have K := ih (p + 1) (by omega)
      have e : sg_co S s (p + 1) = sg_if (sg_bt s p) (sg_co S s p + S 23 p) (sg_co S s p) := rfl
      rw [e] at K
      rw [c1, if_neg (by omega), sg_bit hs (by omega), Int.toNat_natCast, c2]
      by_cases q : sg_bt s p
      · rw [sg_if_y q] at K
        have q' : s / 2 ^ p % 2 = 1 := q
        rw [q', if_pos (by decide)]
        exact ⟨by omega, by omega, by omega, K⟩
      · rw [sg_if_n q] at K
        have q' : ¬ s / 2 ^ p % 2 = 1 := q
        rw [if_neg (by omega), Int.add_zero]
        exact ⟨by omega, by omega, K⟩
  refine vw_X12_costOf ?_
  exact key (S 0 5).toNat 0 (by omega)
theorem sg_MM_fw {M' : mv_Mem} (h : sg_MM S M) (hf : sg_fw M M') (ho : sg_Mo S M') (hr : sg_Rl S M' (S 0 6).toNat) : sg_MM S M' := sg_MM_q h (fun b i hb => hf b i (by omega) (by omega) (by omega) (by omega) (by omega)) (fun _ _ _ => rfl) ho hr
theorem sg_fw_Y {M' : mv_Mem} (hf : sg_fw M M') : sg_Y M M' := fun b i hb => hf b i (by omega) (by omega) (by omega) (by omega) (by omega)
theorem sg_wi_wf (hw : sg_wf S) (s : Nat) : sg_wf (sg_wi S s) := sg_bl_wf hw s true _ (by have := hw.1.2.2.2.2.2.1; omega)
theorem ma_gain (hS : sg_oo c S) (hc : c ≤ 100000) (h : sg_MM S M) {a : Int} (hF : ∀ M', sg_Y M M' → sg_MM (sa_gain S a).2 M' → F (sa_gain S a).1 M') : mv_Wp G 205 [.inr (.inr 88), .inl a] (mh l) M (mv_ql (mh l) F) := by
  have hw := hS.1
  have hM := h.1
  have hp8 := hw.1.2.2.2.2.2.1
  have hr12 := hw.1.2.2.2.2.2.2
  unfold sa_gain at hF
  refine vw_X12_gain (md_isPlan hM (fun q => ?_) (fun q => ?_))
  · rw [if_neg (by decide)]
    obtain ⟨p, hp⟩ := sg_nat q.1
    subst hp
    have hup : sg_up S (p : Int) = sg_if (sg_bu S p) (-3) 0 := by
      unfold sg_up
      rw [if_neg (by omega), Int.toNat_natCast]
    refine md_isTaken hw hM h.2.1 q.2 (fun z => ?_) (fun z => ?_)
    · rw [hup, sg_if_y z, if_pos (by decide)] at hF
      rw [if_neg (by decide)]
      exact md_noL2 hS hc h _ (by decide) hF
    · rw [hup, sg_if_n z, if_neg (by decide), Int.toNat_natCast] at hF
      rw [if_pos rfl]
      have h2p := sg_p2 (p := p) (by omega)
      refine md_found hS h (fun M1 y1 m1 w1 d1 => md_allRents hw (sg_Fb_o m1.1 d1) ?_)
      rw [sg_shl (by omega)]
      refine md_findsWith hw m1.1 m1.2.1 (by omega) h2p (fun M2 f2 o2 r2 b2 => md_allRents (sg_wi_wf hw _) b2 ?_)
      have c128 : M2 128 p = S 23 p := (o2.2.2.2.2.2.2.2.2.2.2 p q.2).2.2.2
      have b1 := sg_all_b hw
      have b3 := sg_all_b (sg_wi_wf hw (2 ^ p))
      have b4 := sg_wfp hw q.2
      have hh := hF M2 (sg_Y_t y1 (sg_fw_Y f2)) (sg_MM_fw m1 f2 o2 r2)
      unfold sg_gain at hh
      rw [Int.toNat_natCast, c128]
      exact ⟨by omega, by omega, by omega, by omega, mv_ql_i hh⟩
  · have hup : sg_up S a = -1 := by
      unfold sg_up
      rw [if_pos (by omega)]
    rw [hup, if_pos (by decide)] at hF
    rw [if_pos rfl]
    exact md_noL2 hS hc h _ (by decide) hF
theorem ma_put (hS : sg_oo c S) (hc : c ≤ 100000) (h : sg_MM S M) {a : Int} (hF : ∀ M', sg_Y M M' → sg_MM (sa_put S a).2 M' → F (sa_put S a).1 M') : mv_Wp G 214 [.inr (.inr 88), .inl a] (mh l) M (mv_qi (mh l) F) := by
  unfold sa_put at hF
  have hr := hS.2.2.2.1
  have c60 : M 88 60 = S 32 0 := h.2.2.2.2.1
  have e60 : ∀ j v, (mv_up M 135 j v) 88 60 = S 32 0 := fun j v => (mv_up_c (by decide)).trans c60
  refine vw_X12_put (md_outOf ?_)
  unfold sg_un
  by_cases z1 : a < -1
  · rw [if_pos z1] at hF
    rw [if_pos z1, if_neg (by decide), if_neg (by decide)]
    exact md_no2 hS hc h _ (by decide) hF
  rw [if_neg z1] at hF
  rw [if_neg z1]
  by_cases z2 : 99 < a
  · rw [if_pos (Or.inl z2)] at hF
    rw [if_pos z2, if_neg (by decide), if_neg (by decide)]
    exact md_no2 hS hc h _ (by decide) hF
  rw [if_neg z2, if_pos rfl, c60]
  by_cases z3 : S 32 0 = 48
  · rw [if_pos (Or.inr (by omega))] at hF
    rw [if_pos z3, if_neg (by decide)]
    exact md_no2 hS hc h _ (by decide) hF
  rw [if_neg (by omega)] at hF
  rw [if_neg z3, if_pos rfl, e60, mv_up_s]
  refine ⟨by omega, by omega, mv_qi_i (hF _ (fun b i hb => by rw [mv_up_c (by omega), mv_up_c (by omega)]) ?_)⟩
  have hsw : sg_sw S (mv_up (mv_up S 33 (S 32 0).toNat a) 32 0 (S 32 0 + 1)) := fun b i hb => by rw [mv_up_c (by omega), mv_up_c (by omega)]
  obtain ⟨h1, h1b, h2, h3, h4, h5, h6, h7, h8⟩ := h
  have fr : ∀ b i, ¬ (b = 88 ∧ i = 60) → b ≠ 135 → (mv_up (mv_up M 135 (S 32 0).toNat a) 88 60 (S 32 0 + 1)) b i = M b i := fun b i a1 a2 => by rw [mv_up_n a1, mv_up_c a2]
  refine ⟨sg_sw_Mo hsw (sg_Mo_fr h1 (fun b i hb => fr b i (by unfold sg_mc at hb; omega) (by unfold sg_mc at hb; omega))), sg_sw_Rl hsw (sg_Rl_fr h1b (fr 88 17 (by decide) (by decide)) (fun b i a1 a2 => fr b i (by omega) (by omega))), (fr 88 7 (by decide) (by decide)).trans h2, fun i hi => (fr 90 i (by omega) (by decide)).trans (h3 i hi), ?_, fun i hi => ?_, fun i hi => (fr 89 i (by omega) (by decide)).trans (h6 i hi), (fr 88 62 (by decide) (by decide)).trans h7, fun z => ?_⟩
  · show mv_up (mv_up M 135 (S 32 0).toNat a) 88 60 (S 32 0 + 1) 88 60 = mv_up (mv_up S 33 (S 32 0).toNat a) 32 0 (S 32 0 + 1) 32 0
    rw [mv_up_s, mv_up_s]
  · have hi : (i : Int) < S 32 0 + 1 := hi
    show mv_up M 135 (S 32 0).toNat a 135 i = mv_up S 33 (S 32 0).toNat a 33 i
    by_cases y : i = (S 32 0).toNat
    · rw [y, mv_up_s, mv_up_s]
    · rw [mv_up_j y, mv_up_j y]
      exact h5 i (by omega)
  · dsimp only
    rw [sg_kp_up (by decide), sg_kp_up (by decide)]
    exact sg_Ki_fr (h8 z) (fun i => fr 136 i (by omega) (by decide))
end MI
