/-! THE MODEL's CALLS: the best set, the judge -/
section MK
variable {S : mv_Mem} {G : mv_G} {l c : Nat} {M : mv_Mem} {F : Int → mv_Mem → Prop}
theorem sg_bt_0 (n : Nat) : ¬ sg_bt 0 n := fun z => by
  have : 0 / 2 ^ n % 2 = 1 := z
  rw [Nat.zero_div] at this
  omega
theorem sg_bl_z (b : Bool) : ∀ n, sg_bl S 0 b n = S
  | 0 => rfl
  | n + 1 => by
    show sg_pm (sg_bt 0 n) _ _ = S
    rw [sg_pm_n (sg_bt_0 n)]
    exact sg_bl_z b n
theorem sg_co_0 : ∀ n, sg_co S 0 n = 0
  | 0 => rfl
  | n + 1 => by
    show sg_if (sg_bt 0 n) _ _ = 0
    rw [sg_if_n (sg_bt_0 n)]
    exact sg_co_0 n
theorem sg_be_i (S : mv_Mem) (sum : Int) : ∀ x : Nat, ∃ s : Nat, s ≤ x ∧ (sg_be S sum x).1 = (s : Int) ∧ (sg_be S sum x).2.2 = sg_co S s (S 0 5).toNat
  | 0 => ⟨0, Nat.le_refl _, rfl, (sg_co_0 _).symm⟩
  | x + 1 => by
    have e : sg_be S sum (x + 1) = (if sg_co S (x + 1) (S 0 5).toNat ≤ sum ∧ ((sg_be S sum x).2.1 < sg_all (sg_wi S (x + 1)) ∨ (sg_all (sg_wi S (x + 1)) = (sg_be S sum x).2.1 ∧ sg_co S (x + 1) (S 0 5).toNat < (sg_be S sum x).2.2)) then (((x + 1 : Nat) : Int), sg_all (sg_wi S (x + 1)), sg_co S (x + 1) (S 0 5).toNat) else sg_be S sum x) := rfl
    rw [e]
    split
    · exact ⟨x + 1, Nat.le_refl _, rfl, rfl⟩
    · obtain ⟨s, s1, s2, s3⟩ := sg_be_i S sum x
      exact ⟨s, by omega, s2, s3⟩
theorem ma_best (hS : sg_oo c S) (hc : c ≤ 100000) (h : sg_MM S M) {a : Int} (hF : ∀ M', sg_Y M M' → sg_MM (sa_best S a).2 M' → F (sa_best S a).1 M') : mv_Wp G 207 [.inr (.inr 88), .inl a] (mh l) M (mv_qi (mh l) F) := by
  have hw := hS.1
  have hp8 := hw.1.2.2.2.2.2.1
  have hr12 := hw.1.2.2.2.2.2.2
  have h256 : 2 ^ (S 0 5).toNat ≤ 256 := by
    have := Nat.pow_le_pow_right (n := 2) (by decide) (show (S 0 5).toNat ≤ 8 by omega)
    omega
  have hpos : 0 < 2 ^ (S 0 5).toNat := Nat.pow_pos (by decide)
  unfold sa_best at hF
  -- the sets from x + 1 on
  have sets : (∀ M', sg_Y M M' → sg_MM S M' → F (sg_be S a (2 ^ (S 0 5).toNat - 1)).1 M') → 0 ≤ a → ∀ (n x : Nat) (M1 : mv_Mem), x + 1 + n = 2 ^ (S 0 5).toNat → sg_Y M M1 → sg_MM S M1 →
      mv_Run G 207 136 7420 63 [(0, .inr (.inr 88)), (1, .inl a), (3, .inl (sg_be S a x).1), (4, .inr (.inl (sg_be S a x).2.1)), (6, .inl ((x : Int) + 1))] [] (mh l) M1 (mv_qi (mh l) F) := by
    intro fin ha n
    induction n with
    | zero =>
      intro x M1 hx y1 m1
      refine vr_X12_best_63 ?_
      have c55 : M1 88 55 = (((S 0 5).toNat : Nat) : Int) := m1.1.1.2.2.2.2.2.trans (by omega)
      rw [c55, sg_shl (by omega), if_pos (by omega)]
      have := fin M1 y1 m1
      rw [show 2 ^ (S 0 5).toNat - 1 = x by omega] at this
      exact mv_qi_i this
    | succ n ih =>
      intro x M1 hx y1 m1
      refine vr_X12_best_63 ?_
      have c55 : M1 88 55 = (((S 0 5).toNat : Nat) : Int) := m1.1.1.2.2.2.2.2.trans (by omega)
      rw [c55, sg_shl (by omega), if_neg (by omega), show (x : Int) + 1 = ((x + 1 : Nat) : Int) by omega]
      have K := fun M' => ih (x + 1) M' (by omega)
      have e : sg_be S a (x + 1) = (if sg_co S (x + 1) (S 0 5).toNat ≤ a ∧ ((sg_be S a x).2.1 < sg_all (sg_wi S (x + 1)) ∨ (sg_all (sg_wi S (x + 1)) = (sg_be S a x).2.1 ∧ sg_co S (x + 1) (S 0 5).toNat < (sg_be S a x).2.2)) then (((x + 1 : Nat) : Int), sg_all (sg_wi S (x + 1)), sg_co S (x + 1) (S 0 5).toNat) else sg_be S a x) := rfl
      rw [e] at K
      obtain ⟨s, s1, s2, s3⟩ := sg_be_i S a x
      refine md_costOf (s := x + 1) hw m1.1 (by omega) ?_
      split
      · rename_i q
        refine md_findsWith (s := x + 1) hw m1.1 m1.2.1 (by omega) (by omega) (fun M2 f2 o2 r2 b2 => md_allRents (sg_wi_wf hw _) b2 ?_)
        have m2 := sg_MM_fw m1 f2 o2 r2
        have y2 := sg_Y_t y1 (sg_fw_Y f2)
        have K1 := K M2 y2 m2
        rw [if_neg (by omega)]
        simp only [mv_cmp_lt, mv_cmp_eq]
        split
        · rename_i z
          rw [if_neg (fun y => by rcases y.2 with y | y <;> omega)] at K1
          exact ⟨by omega, K1⟩
        · rename_i z
          split
          · rename_i z2
            refine md_costOf (s := x + 1) hw o2 (by omega) ?_
            rw [s2]
            refine md_costOf (s := s) hw o2 (by omega) ?_
            rw [← s3]
            split
            · rename_i z3
              rw [if_pos ⟨q, Or.inr ⟨z2, z3⟩⟩] at K1
              exact ⟨by omega, K1⟩
            · rename_i z3
              rw [if_neg (fun y => by rcases y.2 with y | y <;> omega)] at K1
              rw [s2] at K1
              exact ⟨by omega, K1⟩
          · rename_i z2
            rw [if_pos ⟨q, Or.inl (by omega)⟩] at K1
            exact ⟨by omega, K1⟩
      · rename_i q
        have K1 := K M1 y1 m1
        rw [if_neg (fun y => q y.1)] at K1
        exact ⟨by omega, K1⟩
  -- the first set
  have first : (∀ M', sg_Y M M' → sg_MM S M' → F (sg_be S a (2 ^ (S 0 5).toNat - 1)).1 M') → 0 ≤ a → mv_Run G 207 136 7420 63 [(0, .inr (.inr 88)), (1, .inl a), (3, .inl (-1)), (4, .inr (.inl 0)), (6, .inl 0)] [] (mh l) M (mv_qi (mh l) F) := by
    intro fin ha
    refine vr_X12_best_63 ?_
    have c55 : M 88 55 = (((S 0 5).toNat : Nat) : Int) := h.1.1.2.2.2.2.2.trans (by omega)
    rw [c55, sg_shl (by omega), if_neg (by omega)]
    refine md_costOf (s := 0) hw h.1 (by omega) ?_
    rw [sg_co_0, if_pos ha]
    refine md_findsWith (s := 0) hw h.1 h.2.1 (by omega) (by omega) (fun M2 f2 o2 r2 b2 => md_allRents (sg_wi_wf hw _) b2 ?_)
    have e0 : sg_wi S 0 = S := sg_bl_z true _
    rw [e0, if_pos (by decide)]
    exact ⟨by omega, sets fin ha (2 ^ (S 0 5).toNat - 1) 0 M2 (by omega) (sg_fw_Y f2) (sg_MM_fw h f2 o2 r2)⟩
  have c55 : M 88 55 = S 0 5 := h.1.1.2.2.2.2.2
  refine vw_X12_best (md_outOf ?_)
  by_cases z : sg_un a 0 99999 = 0
  · rw [if_neg (fun y => y z)] at hF
    have hr := sg_un_0 z
    rw [z]
    have key : ∀ (n p : Nat), ((p + n : Nat) : Int) = S 0 5 → (∀ j, j < p → ¬ sg_bu S j) → mv_Run G 207 136 7420 12 [(0, .inr (.inr 88)), (1, .inl a), (2, .inl 0), (3, .inl (p : Int))] [] (mh l) M (mv_qi (mh l) F) := by
      intro n
      induction n with
      | zero =>
        intro p hp hno
        refine vr_X12_best_12 ?_
        rw [sg_ip_n (fun ⟨j, j1, j2⟩ => hno j (by omega) j2)] at hF
        rw [c55, if_pos (by omega), if_pos rfl]
        exact first hF hr.1
      | succ n ih =>
        intro p hp hno
        refine vr_X12_best_12 ?_
        rw [c55, if_neg (by omega), if_pos rfl]
        refine md_isTaken hw h.1 h.2.1 (by omega) (fun y => ?_) (fun y => ?_)
        · rw [sg_ip_y ⟨p, by omega, y⟩] at hF
          rw [if_neg (by decide)]
          refine ⟨by omega, vr_X12_best_12 ?_⟩
          rw [c55]
          split
          · rw [if_neg (by decide)]
            exact md_no2 hS hc h _ (by decide) hF
          · rw [if_neg (by decide), if_neg (by decide)]
            exact md_no2 hS hc h _ (by decide) hF
        · rw [if_pos rfl]
          refine ⟨by omega, ih (p + 1) (by omega) (fun j hj => ?_)⟩
          by_cases t : j = p
          · rw [t]
            exact y
          · exact hno j (by omega)
    exact key (S 0 5).toNat 0 (by omega) (fun j hj => by omega)
  · rw [if_pos z] at hF
    refine vr_X12_best_12 ?_
    split
    · exact md_no2 hS hc h _ (sg_un_r z) hF
    · exact md_no2 hS hc h _ (sg_un_r z) hF
end MK
