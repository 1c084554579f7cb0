/-! THE CLASS's LAND -/
theorem sg_ac_no {S : mv_Mem} {a : Int} (h : ¬ (0 ≤ a ∧ a / 10 < S 0 0 ∧ a % 10 < S 0 1)) : sg_ac S a = -1 := if_neg h
theorem sg_ac_yes {S : mv_Mem} {a : Int} (h : 0 ≤ a ∧ a / 10 < S 0 0 ∧ a % 10 < S 0 1) : sg_ac S a = 8 * (a % 10) + a / 10 := if_pos h
theorem sg_pa_no {S : mv_Mem} {a : Int} (h : ¬ (0 ≤ a ∧ a / 10 < S 0 0 ∧ a % 10 < S 0 1)) : sg_pa S a = -1 := by
  unfold sg_pa
  rw [sg_ac_no h]
  rfl
theorem sg_pa_yes {S : mv_Mem} (hw : sg_wf S) {a : Int} (h : 0 ≤ a ∧ a / 10 < S 0 0 ∧ a % 10 < S 0 1) : sg_pa S a = (a % 10) * S 0 0 + a / 10 := by
  obtain ⟨⟨⟨w1, w2⟩, ⟨h1, h2⟩, -⟩, -⟩ := hw
  unfold sg_pa sg_pl
  rw [sg_ac_yes h, if_pos (by omega)]
  have e1 : (8 * (a % 10) + a / 10).toNat / 8 = (a % 10).toNat := by omega
  have e2 : (8 * (a % 10) + a / 10).toNat % 8 = (a / 10).toNat := by omega
  rw [e1, e2, Int.natCast_add, Int.natCast_mul, Int.toNat_of_nonneg (by omega), Int.toNat_of_nonneg (by omega), Int.toNat_of_nonneg (by omega)]
theorem sg_pa_lt {S : mv_Mem} (hw : sg_wf S) (a : Int) : -1 ≤ sg_pa S a ∧ sg_pa S a < 48 := by
  unfold sg_pa
  split
  · rename_i h
    have := (sg_pl_lt hw (sg_ac_ok hw h).1).2
    omega
  · omega
theorem cl_placeOf {G : mv_G} {l : Nat} {S M : mv_Mem} {F : Int → mv_Mem → Prop} {a : Int} (hw : sg_wf S) (hC : sg_C 0 S M) (ha : mv_R32 a) (h : F (sg_pa S a) M) : mv_Wp G 4 [.inr (.inr 8), .inl a] (mh l) M (mv_qi (mh l) F) := by
  refine vw_X0_placeOf ?_
  have c1 : M 8 0 = S 0 0 := hC.1.1
  have c2 : M 8 1 = S 0 1 := hC.1.2.1
  obtain ⟨⟨⟨w1, w2⟩, ⟨h1, h2⟩, -⟩, -⟩ := id hw
  rw [c1, c2]
  by_cases h0 : a < 0
  · rw [if_pos h0]
    rw [sg_pa_no (by omega)] at h
    exact mv_qi_i h
  · rw [if_neg h0, sg_td (by omega), sg_tm (by omega)]
    refine ⟨⟨by decide, by omega⟩, ?_⟩
    split
    · rw [sg_pa_no (by omega)] at h
      exact mv_qi_i h
    · refine ⟨by decide, ?_⟩
      split
      · rw [sg_pa_yes hw ⟨by omega, by omega, by omega⟩] at h
        have hm : 0 ≤ (a % 10) * S 0 0 := Int.mul_nonneg (by omega) (by omega)
        have hm2 : (a % 10) * S 0 0 ≤ 9 * 8 := Int.mul_le_mul (by omega) (by omega) (by omega) (by omega)
        exact ⟨by decide, by omega, ⟨by decide, by omega⟩, by omega, mv_qi_i h⟩
      · rw [sg_pa_no (by omega)] at h
        exact mv_qi_i h
/-- the place beside a place; -1 -/
def sg_pb (S : mv_Mem) (k : Nat) (d : Nat) : Int := if d = 0 then (if ((k % 8 + 1 : Nat) : Int) < S 0 0 then (sg_pl S k : Int) + 1 else -1) else if d = 1 then (if 0 < k % 8 then (sg_pl S k : Int) - 1 else -1)
  else if d = 2 then (if ((k / 8 + 1 : Nat) : Int) < S 0 1 then (sg_pl S k : Int) + S 0 0 else -1) else (if 0 < k / 8 then (sg_pl S k : Int) - S 0 0 else -1)
theorem sg_pb_yes {S : mv_Mem} {k d : Nat} (hw : sg_wf S) (hk : sg_ok S k) (hh : sg_has S k d) (hd : d < 4) : sg_pb S k d = (sg_pl S (sg_nx k d) : Int) ∧ sg_ok S (sg_nx k d) := by
  obtain ⟨⟨⟨w1, w2⟩, ⟨h1, h2⟩, -⟩, -⟩ := hw
  obtain ⟨k1, k2⟩ := hk
  have ew : ((S 0 0).toNat : Int) = S 0 0 := Int.toNat_of_nonneg (by omega)
  unfold sg_has at hh
  unfold sg_pb sg_nx sg_ok sg_pl
  rcases (show d = 0 ∨ d = 1 ∨ d = 2 ∨ d = 3 by omega) with rfl | rfl | rfl | rfl
  · simp only [if_true] at hh ⊢
    rw [if_pos hh, show (k + 1) / 8 = k / 8 by omega, show (k + 1) % 8 = k % 8 + 1 by omega]
    exact ⟨by omega, hh, k2⟩
  · simp only [if_true, show ¬ (1 = 0) by decide, if_false] at hh ⊢
    rw [if_pos hh, show (k - 1) / 8 = k / 8 by omega, show (k - 1) % 8 = k % 8 - 1 by omega]
    exact ⟨by omega, by omega, k2⟩
  · simp only [if_true, show ¬ (2 = 0) by decide, show ¬ (2 = 1) by decide, if_false] at hh ⊢
    rw [if_pos hh, show (k + 8) / 8 = k / 8 + 1 by omega, show (k + 8) % 8 = k % 8 by omega, Nat.add_mul]
    exact ⟨by omega, k1, hh⟩
  · simp only [show ¬ (3 = 0) by decide, show ¬ (3 = 1) by decide, show ¬ (3 = 2) by decide, if_false] at hh ⊢
    obtain ⟨j, hj⟩ : ∃ j, k / 8 = j + 1 := ⟨k / 8 - 1, by omega⟩
    rw [if_pos hh, show (k - 8) / 8 = j by omega, show (k - 8) % 8 = k % 8 by omega, hj, Nat.add_mul]
    exact ⟨by omega, k1, by omega⟩
theorem sg_pb_no {S : mv_Mem} {k d : Nat} (hh : ¬ sg_has S k d) : sg_pb S k d = -1 := by
  unfold sg_has at hh
  unfold sg_pb
  by_cases h0 : d = 0
  · rw [if_pos h0] at hh ⊢; exact if_neg hh
  · rw [if_neg h0] at hh ⊢
    by_cases h1 : d = 1
    · rw [if_pos h1] at hh ⊢; exact if_neg hh
    · rw [if_neg h1] at hh ⊢
      by_cases h2 : d = 2
      · rw [if_pos h2] at hh ⊢; exact if_neg hh
      · rw [if_neg h2] at hh ⊢; exact if_neg hh
theorem cl_beside {G : mv_G} {l : Nat} {S M : mv_Mem} {F : Int → mv_Mem → Prop} {k d : Nat} (hw : sg_wf S) (hC : sg_C 0 S M) (hk : sg_ok S k) (hd : d < 4) (h : F (sg_pb S k d) M) : mv_Wp G 5 [.inr (.inr 8), .inl (sg_pl S k : Int), .inl (d : Int)] (mh l) M (mv_qi (mh l) F) := by
  refine vw_X0_beside ?_
  have c1 : M 8 0 = S 0 0 := hC.1.1
  have c2 : M 8 1 = S 0 1 := hC.1.2.1
  have c3 : M 9 (sg_pl S k) = ((10 * (k % 8) + k / 8 : Nat) : Int) := (hC.2.1 k hk).1
  obtain ⟨⟨⟨w1, w2⟩, ⟨h1, h2⟩, -⟩, -⟩ := id hw
  obtain ⟨k1, k2⟩ := id hk
  have hp := (sg_pl_lt hw hk).2
  rw [Int.toNat_natCast, c3, c1, c2, sg_td (by omega), sg_tm (by omega)]
  have e1 : ((10 * (k % 8) + k / 8 : Nat) : Int) / 10 = ((k % 8 : Nat) : Int) := by omega
  have e2 : ((10 * (k % 8) + k / 8 : Nat) : Int) % 10 = ((k / 8 : Nat) : Int) := by omega
  rw [e1, e2]
  unfold sg_pb at h
  refine ⟨by omega, ⟨by decide, by omega⟩, by omega, by decide, ?_⟩
  rcases (show d = 0 ∨ d = 1 ∨ d = 2 ∨ d = 3 by omega) with rfl | rfl | rfl | rfl
  · simp only [if_true] at h
    rw [if_pos (by rfl)]
    refine ⟨by omega, ?_⟩
    split
    · rw [if_neg (by omega)] at h
      exact mv_qi_i h
    · rw [if_pos (by omega)] at h
      exact ⟨by omega, mv_qi_i h⟩
  · simp only [if_true, show ¬ (1 = 0) by decide, if_false] at h
    rw [if_neg (by decide), if_pos (by rfl)]
    split
    · rw [if_neg (by omega)] at h
      exact mv_qi_i h
    · rw [if_pos (by omega)] at h
      exact ⟨by omega, mv_qi_i h⟩
  · simp only [if_true, show ¬ (2 = 0) by decide, show ¬ (2 = 1) by decide, if_false] at h
    rw [if_neg (by decide), if_neg (by decide), if_pos (by rfl)]
    refine ⟨by omega, ?_⟩
    split
    · rw [if_neg (by omega)] at h
      exact mv_qi_i h
    · rw [if_pos (by omega)] at h
      exact ⟨by omega, mv_qi_i h⟩
  · simp only [show ¬ (3 = 0) by decide, show ¬ (3 = 1) by decide, show ¬ (3 = 2) by decide, if_false] at h
    rw [if_neg (by decide), if_neg (by decide), if_neg (by decide)]
    split
    · rw [if_neg (by omega)] at h
      exact mv_qi_i h
    · rw [if_pos (by omega)] at h
      exact ⟨by omega, mv_qi_i h⟩
/-- the direction from an acre to one beside it; -1 -/
def sg_dir (k k' : Nat) : Int := if k' / 8 = k / 8 ∧ k' % 8 = k % 8 + 1 then 0 else if k' / 8 = k / 8 ∧ k' % 8 + 1 = k % 8 then 1 else if k' % 8 = k % 8 ∧ k' / 8 = k / 8 + 1 then 2 else if k' % 8 = k % 8 ∧ k' / 8 + 1 = k / 8 then 3 else -1
theorem sg_pl_inj {S : mv_Mem} {k k' : Nat} (hw : sg_wf S) (hk : sg_ok S k) (hk' : sg_ok S k') (h : sg_pl S k = sg_pl S k') : k = k' := by
  obtain ⟨⟨⟨w1, w2⟩, ⟨h1, h2⟩, -⟩, -⟩ := hw
  obtain ⟨k1, k2⟩ := hk
  obtain ⟨j1, j2⟩ := hk'
  unfold sg_pl at h
  obtain ⟨w, hw⟩ := sg_nat (show 0 ≤ S 0 0 by omega)
  rw [hw] at h k1 j1 w1
  rw [Int.toNat_natCast] at h
  have a1 : k % 8 < w := by omega
  have a2 : k' % 8 < w := by omega
  have e1 : (k / 8 * w + k % 8) / w = k / 8 := by rw [Nat.mul_comm, Nat.mul_add_div (by omega), Nat.div_eq_of_lt a1, Nat.add_zero]
  have e2 : (k' / 8 * w + k' % 8) / w = k' / 8 := by rw [Nat.mul_comm, Nat.mul_add_div (by omega), Nat.div_eq_of_lt a2, Nat.add_zero]
  have e3 : k / 8 = k' / 8 := by rw [← e1, ← e2, h]
  rw [e3] at h
  omega
theorem sg_pb_dir {S : mv_Mem} {k k' d : Nat} (hw : sg_wf S) (hk : sg_ok S k) (hk' : sg_ok S k') (hd : d < 4) : sg_pb S k d = (sg_pl S k' : Int) ↔ sg_dir k k' = d := by
  have hdir : sg_dir k k' = d ↔ sg_has S k d ∧ sg_nx k d = k' := by
    obtain ⟨⟨⟨w1, w2⟩, ⟨h1, h2⟩, -⟩, -⟩ := id hw
    obtain ⟨k1, k2⟩ := id hk
    obtain ⟨j1, j2⟩ := id hk'
    unfold sg_dir sg_has sg_nx
    rcases (show d = 0 ∨ d = 1 ∨ d = 2 ∨ d = 3 by omega) with rfl | rfl | rfl | rfl
    · simp only [if_true]
      constructor
      · intro h
        split at h
        · omega
        · split at h
          · omega
          · split at h
            · omega
            · split at h <;> omega
      · rintro ⟨h1, rfl⟩
        rw [if_pos (by omega)]
        rfl
    · simp only [if_true, show ¬ (1 = 0) by decide, if_false]
      constructor
      · intro h
        split at h
        · omega
        · split at h
          · omega
          · split at h
            · omega
            · split at h <;> omega
      · rintro ⟨h1, rfl⟩
        rw [if_neg (by omega), if_pos (by omega)]
        rfl
    · simp only [if_true, show ¬ (2 = 0) by decide, show ¬ (2 = 1) by decide, if_false]
      constructor
      · intro h
        split at h
        · omega
        · split at h
          · omega
          · split at h
            · omega
            · split at h <;> omega
      · rintro ⟨h1, rfl⟩
        rw [if_neg (by omega), if_neg (by omega), if_pos (by omega)]
        rfl
    · simp only [show ¬ (3 = 0) by decide, show ¬ (3 = 1) by decide, show ¬ (3 = 2) by decide, if_false]
      constructor
      · intro h
        split at h
        · omega
        · split at h
          · omega
          · split at h
            · omega
            · split at h <;> omega
      · rintro ⟨h1, rfl⟩
        rw [if_neg (by omega), if_neg (by omega), if_neg (by omega), if_pos (by omega)]
        rfl
  rw [hdir]
  by_cases hh : sg_has S k d
  · obtain ⟨e, ho⟩ := sg_pb_yes hw hk hh hd
    rw [e]
    constructor
    · intro q
      exact ⟨hh, sg_pl_inj hw ho hk' (by omega)⟩
    · rintro ⟨-, rfl⟩
      rfl
  · rw [sg_pb_no hh]
    constructor
    · intro q
      omega
    · intro q
      exact absurd q.1 hh
theorem sg_dir_r (k k' : Nat) : -1 ≤ sg_dir k k' ∧ sg_dir k k' < 4 := by
  unfold sg_dir
  split
  · omega
  · split
    · omega
    · split
      · omega
      · split <;> omega
theorem cl_sideTowards {G : mv_G} {l : Nat} {S M : mv_Mem} {F : Int → mv_Mem → Prop} {k k' : Nat} (hw : sg_wf S) (hC : sg_C 0 S M) (hk : sg_ok S k) (hk' : sg_ok S k') (h : F (sg_dir k k') M) : mv_Wp G 6 [.inr (.inr 8), .inl (sg_pl S k : Int), .inl (sg_pl S k' : Int)] (mh l) M (mv_qi (mh l) F) := by
  have hr := sg_dir_r k k'
  have key : ∀ (n d : Nat), d + n = 4 → (∀ j, j < d → ¬ sg_dir k k' = (j : Int)) → mv_Run G 6 87 4749 14 [(0, .inr (.inr 8)), (1, .inl (sg_pl S k : Int)), (2, .inl (sg_pl S k' : Int)), (3, .inl (d : Int))] [] (mh l) M (mv_qi (mh l) F) := by
    intro n
    induction n with
    | zero =>
      intro d hd hno
      refine vr_X0_sideTowards_14 ?_
      rw [if_pos (by omega)]
      have h0 := hno 0 (by omega)
      have h1 := hno 1 (by omega)
      have h2 := hno 2 (by omega)
      have h3 := hno 3 (by omega)
      rw [show sg_dir k k' = -1 by omega] at h
      exact mv_qi_i h
    | succ n ih =>
      intro d hd hno
      refine vr_X0_sideTowards_14 ?_
      rw [if_neg (by omega)]
      refine cl_beside hw hC hk (by omega) ?_
      by_cases he : sg_pb S k d = (sg_pl S k' : Int)
      · rw [if_pos he]
        rw [(sg_pb_dir hw hk hk' (by omega)).mp he] at h
        exact mv_qi_i h
      · rw [if_neg he]
        refine ⟨by omega, ih (d + 1) (by omega) (fun j hj => ?_)⟩
        rcases Nat.lt_or_ge j d with q | q
        · exact hno j q
        · rw [show j = d by omega]
          exact fun z => he ((sg_pb_dir hw hk hk' (by omega)).mpr z)
  refine vw_X0_sideTowards ?_
  rw [if_neg (by omega), if_neg (by omega)]
  exact key 4 0 rfl (fun j hj => by omega)
theorem cl_sideTowards_no {G : mv_G} {l : Nat} {M : mv_Mem} {F : Int → mv_Mem → Prop} {a b : Int} (hab : a = -1 ∨ b = -1) (h : F (-1) M) : mv_Wp G 6 [.inr (.inr 8), .inl a, .inl b] (mh l) M (mv_qi (mh l) F) := by
  refine vw_X0_sideTowards ?_
  split
  · exact mv_qi_i h
  · split
    · exact mv_qi_i h
    · omega
theorem cl_roadAt {G : mv_G} {l : Nat} {S M : mv_Mem} {F : Int → mv_Mem → Prop} {k d : Nat} (hw : sg_wf S) (hC : sg_C 0 S M) (hk : sg_ok S k) (hd : d < 4) (h : F (if S 5 (4 * k + d) = 4 then 3 else S 5 (4 * k + d)) M) : mv_Wp G 7 [.inr (.inr 8), .inl (sg_pl S k : Int), .inl (d : Int)] (mh l) M (mv_qi (mh l) F) := by
  refine vw_X0_roadAt ?_
  have hp := (sg_pl_lt hw hk).2
  have c : M 14 (4 * sg_pl S k + d) = S 5 (4 * k + d) := (hC.2.1 k hk).2.2.2.2.2 d hd
  rw [show Int.toNat ((sg_pl S k : Int) * 4 + (d : Int)) = 4 * sg_pl S k + d by omega, c]
  refine ⟨by omega, by omega, by omega, ?_⟩
  split
  · rename_i q
    rw [if_pos q] at h
    exact mv_qi_i h
  · rename_i q
    rw [if_neg q] at h
    exact mv_qi_i h
/-- the market on an acre; -9 -/
def sg_mo (S : mv_Mem) (k : Nat) : Nat → Nat → Int
  | 0, _ => -9
  | n + 1, m => if S 7 m = (k : Int) then (m : Int) else sg_mo S k n (m + 1)
def sg_on (S : mv_Mem) (k : Nat) : Int := sg_mo S k (S 0 2).toNat 0
theorem sg_wf_m {S : mv_Mem} (hw : sg_wf S) {m : Nat} (hm : (m : Int) < S 0 2) : 0 ≤ S 7 m ∧ S 7 m < 48 ∧ sg_ok S (S 7 m).toNat := hw.2.2.1 m hm
theorem cl_marketOn {G : mv_G} {l : Nat} {S M : mv_Mem} {F : Int → mv_Mem → Prop} {k : Nat} (hw : sg_wf S) (hC : sg_C 0 S M) (hk : sg_ok S k) (h : F (sg_on S k) M) : mv_Wp G 9 [.inr (.inr 8), .inl (sg_pl S k : Int)] (mh l) M (mv_qi (mh l) F) := by
  have c1 : M 8 4 = S 0 2 := hC.1.2.2.2.2
  have hm := hw.1.2.2.1
  have key : ∀ (n m : Nat), ((m + n : Nat) : Int) = S 0 2 → F (sg_mo S k n m) M → mv_Run G 9 87 4749 2 [(0, .inr (.inr 8)), (1, .inl (sg_pl S k : Int)), (2, .inl (m : Int))] [] (mh l) M (mv_qi (mh l) F) := by
    intro n
    induction n with
    | zero =>
      intro m hmn hF
      refine vr_X0_marketOn_2 ?_
      rw [c1, if_pos (by omega)]
      exact mv_qi_i hF
    | succ n ih =>
      intro m hmn hF
      refine vr_X0_marketOn_2 ?_
      have c2 : M 15 m = (sg_pl S (S 7 m).toNat : Int) := hC.2.2.1 m (by omega)
      obtain ⟨g1, g2, g3⟩ := sg_wf_m hw (show (m : Int) < S 0 2 by omega)
      rw [c1, if_neg (by omega), Int.toNat_natCast, c2]
      refine ⟨by omega, ?_⟩
      unfold sg_mo at hF
      by_cases he : S 7 m = (k : Int)
      · rw [if_pos he] at hF
        rw [he, Int.toNat_natCast, if_pos rfl]
        exact mv_qi_i hF
      · rw [if_neg he] at hF
        rw [if_neg (fun q => he (by have := sg_pl_inj hw g3 hk (by omega); omega))]
        exact ⟨by omega, ih (m + 1) (by omega) hF⟩
  refine vw_X0_marketOn ?_
  exact key (S 0 2).toNat 0 (by omega) h
