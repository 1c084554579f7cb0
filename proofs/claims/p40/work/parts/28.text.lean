/-! THE CLASS: A LAND OF A TEXT, IMAGES -/
/-- t, of n, is a text of H lines of W digits -/
def sg_tx (t : Nat → Int) (n W H : Nat) : Prop := (1 ≤ W ∧ W ≤ 8) ∧ (1 ≤ H ∧ H ≤ 6) ∧ n + 1 = H * (W + 1) ∧ (∀ y x, y < H → x < W → 48 ≤ t (y * (W + 1) + x) ∧ t (y * (W + 1) + x) ≤ 57) ∧ ∀ y, y + 1 < H → t (y * (W + 1) + W) = 47
/-- the state behind a text that was read -/
noncomputable def sg_rdS (S : mv_Mem) (t : Nat → Int) (W H : Nat) : mv_Mem := fun a i =>
  if a = 0 then (if i = 0 then (W : Int) else if i = 1 then (H : Int) else if i = 2 ∨ i = 5 ∨ i = 6 then 0 else S 0 i)
  else if a = 1 then (if i % 8 < W ∧ i / 8 < H then t (i / 8 * (W + 1) + i % 8) - 48 else 0)
  else if a = 2 ∨ a = 4 ∨ a = 5 then 0 else if a = 3 then -1 else S a i
theorem sg_prs_i (t : Nat → Int) (n : Nat) : ∀ (f i Y X W : Nat) (w : Int), i + f = n → Y ≤ 5 → (if Y = 0 then w = 8 ∧ X ≤ 8 else w = (W : Int) ∧ 1 ≤ W ∧ W ≤ 8 ∧ X ≤ W) → i = (if Y = 0 then X else Y * (W + 1) + X) →
    (∀ y x, y < Y → x < W → 48 ≤ t (y * (W + 1) + x) ∧ t (y * (W + 1) + x) ≤ 57) → (∀ y, y < Y → t (y * (W + 1) + W) = 47) → (∀ x, x < X → 48 ≤ t ((if Y = 0 then 0 else Y * (W + 1)) + x) ∧ t ((if Y = 0 then 0 else Y * (W + 1)) + x) ≤ 57) →
    (∃ j : Nat, j ≤ n ∧ sg_pr t n f i w Y X = ((j : Int), 0, 0)) ∨ ∃ W H : Nat, sg_pr t n f i w Y X = (-1, (W : Int), (H : Int)) ∧ sg_tx t n W H := by
  intro f
  induction f with
  | zero =>
    intro i Y X W w hi hY hw hp h1 h2 h3
    unfold sg_pr
    split
    · exact Or.inl ⟨n, Nat.le_refl _, rfl⟩
    · rename_i q
      refine Or.inr ?_
      by_cases y0 : Y = 0
      · subst y0
        simp only [if_true] at hw hp h3
        refine ⟨X, 1, ?_, ⟨by omega, by omega⟩, by omega, by omega, fun y x hy hx => ?_, fun y hy => by omega⟩
        · rw [if_pos (show ((0 : Nat) : Int) = 0 from rfl)]
          rfl
        · have hy0 : y = 0 := by omega
          subst hy0
          have := h3 x hx
          rw [Nat.zero_add] at this
          rw [Nat.zero_mul, Nat.zero_add]
          exact this
      · rw [if_neg y0] at hw hp
        rw [if_neg y0] at h3
        have hX : X = W := by omega
        subst hX
        refine ⟨X, Y + 1, ?_, ⟨by omega, by omega⟩, by omega, ?_, fun y x hy hx => ?_, fun y hy => h2 y (by omega)⟩
        · rw [if_neg (by omega), hw.1]
          rfl
        · rw [Nat.succ_mul]
          omega
        · by_cases z : y = Y
          · rw [z]
            exact h3 x hx
          · exact h1 y x (by omega) hx
  | succ f ih =>
    intro i Y X W w hi hY hw hp h1 h2 h3
    unfold sg_pr
    split
    · rename_i q
      split
      · exact Or.inl ⟨i, by omega, rfl⟩
      · rename_i q2
        have hx := ih (i + 1) (Y + 1) 0 X (X : Int) (by omega) (by omega) (by
          rw [if_neg (by omega)]
          by_cases y0 : Y = 0
          · rw [if_pos y0] at hw
            omega
          · rw [if_neg y0] at hw
            omega) (by
          rw [if_neg (by omega), Nat.succ_mul]
          by_cases y0 : Y = 0
          · rw [if_pos y0] at hp
            rw [y0, Nat.zero_mul]
            omega
          · rw [if_neg y0] at hp hw
            have : X = W := by omega
            rw [this]
            omega) (fun y x hy hx => by
          by_cases y0 : Y = 0
          · subst y0
            simp only [if_true] at h3
            have hy0 : y = 0 := by omega
            subst hy0
            have := h3 x hx
            rw [Nat.zero_add] at this
            rw [Nat.zero_mul, Nat.zero_add]
            exact this
          · rw [if_neg y0] at hw h3
            have hX : X = W := by omega
            rw [hX] at hx ⊢
            by_cases z : y = Y
            · rw [z]
              exact h3 x (by omega)
            · exact h1 y x (by omega) hx) (fun y hy => by
          by_cases y0 : Y = 0
          · subst y0
            simp only [if_true] at hp
            have hy0 : y = 0 := by omega
            subst hy0
            rw [Nat.zero_mul, Nat.zero_add, ← hp]
            exact q
          · rw [if_neg y0] at hw hp
            have hX : X = W := by omega
            rw [hX]
            by_cases z : y = Y
            · rw [z, ← hX]
              rw [← hX] at hp
              rw [← hp]
              exact q
            · exact h2 y (by omega)) (fun x hx => by omega)
        exact hx
    · rename_i q
      split
      · rename_i q2
        have hx := ih (i + 1) Y (X + 1) W w (by omega) hY (by
          by_cases y0 : Y = 0
          · rw [if_pos y0] at hw ⊢
            omega
          · rw [if_neg y0] at hw ⊢
            omega) (by
          by_cases y0 : Y = 0
          · rw [if_pos y0] at hp ⊢
            omega
          · rw [if_neg y0] at hp ⊢
            omega) h1 h2 (fun x hx => by
          by_cases z : x = X
          · have e : (if Y = 0 then 0 else Y * (W + 1)) + x = i := by
              rw [z]
              by_cases y0 : Y = 0
              · rw [if_pos y0] at hp ⊢
                omega
              · rw [if_neg y0] at hp ⊢
                omega
            rw [e]
            exact q2.1
          · exact h3 x (by omega))
        exact hx
      · exact Or.inl ⟨i, by omega, rfl⟩
theorem sg_prs_c (t : Nat → Int) (n : Nat) : (∃ j : Nat, j ≤ n ∧ sg_prs t n = ((j : Int), 0, 0)) ∨ ∃ W H : Nat, sg_prs t n = (-1, (W : Int), (H : Int)) ∧ sg_tx t n W H :=
  sg_prs_i t n n 0 0 0 0 8 (by omega) (by omega) ⟨rfl, by omega⟩ rfl (fun y x hy => by omega) (fun y hy => by omega) (fun x hx => by omega)
section TX
variable {S : mv_Mem} {G : mv_G} {l : Nat} {M : mv_Mem}
theorem sg_wf_rd (hw : sg_wf S) {t : Nat → Int} {n W H : Nat} (ht : sg_tx t n W H) : sg_wf (sg_rdS S t W H) := by
  obtain ⟨t1, t2, t3, t4, t5⟩ := ht
  have e0 : sg_rdS S t W H 0 0 = (W : Int) := rfl
  have e1 : sg_rdS S t W H 0 1 = (H : Int) := rfl
  refine ⟨⟨?_, ?_, ?_, hw.1.2.2.2.1, hw.1.2.2.2.2.1, ?_, ?_⟩, ⟨fun i hi => ?_, fun i hi => ?_, fun i hi => ?_, fun i hi => ?_, fun i hi => ?_, hw.2.1.2.2.2.2.2⟩, fun m hm => ?_, fun m m' hm => ?_, hw.2.2.2.2.1, hw.2.2.2.2.2.1, fun p hp => ?_, fun k d hk hd hh => ?_, hw.2.2.2.2.2.2.2.2⟩
  · rw [e0]; omega
  · rw [e1]; omega
  · show (0 : Int) ≤ 0 ∧ (0 : Int) ≤ 3
    decide
  · show (0 : Int) ≤ 0 ∧ (0 : Int) ≤ 8
    decide
  · show (0 : Int) ≤ 0 ∧ (0 : Int) ≤ 12
    decide
  · show 0 ≤ (if i % 8 < W ∧ i / 8 < H then t (i / 8 * (W + 1) + i % 8) - 48 else 0) ∧ (if i % 8 < W ∧ i / 8 < H then t (i / 8 * (W + 1) + i % 8) - 48 else 0) ≤ 9
    split
    · rename_i q
      have := t4 (i / 8) (i % 8) q.2 q.1
      omega
    · decide
  · show (0 : Int) ≤ 0 ∧ (0 : Int) ≤ 99
    decide
  · show (-1 : Int) ≤ -1 ∧ (-1 : Int) ≤ 3
    decide
  · show (0 : Int) ≤ 0 ∧ (0 : Int) ≤ 1
    decide
  · show (0 : Int) ≤ 0 ∧ (0 : Int) ≤ 4
    decide
  · have : (m : Int) < 0 := hm
    omega
  · have : (m : Int) < 0 := hm
    omega
  · have : (p : Int) < 0 := hp
    omega
  · show (0 : Int) = (if (0 : Int) = 3 then 4 else if (0 : Int) = 4 then 3 else 0)
    decide
theorem cl_clearAway {M0 : mv_Mem} {F : mv_Mem → Prop} (h : ∀ M, (∀ a i, a ≠ 8 → a ≠ 11 → a ≠ 12 → a ≠ 13 → a ≠ 14 → M a i = M0 a i) → (M 8 2 = 0 ∧ M 8 3 = 0 ∧ M 8 4 = 0) → (∀ i, i < 48 → M 11 i = 0 ∧ M 12 i = -1 ∧ M 13 i = 0) → (∀ i, i < 192 → M 14 i = 0) → F M) :
    mv_Wp G 2 [.inr (.inr 8)] (mh l) M0 (mv_qv (mh l) F) := by
  have key2 : ∀ (n p : Nat) (M : mv_Mem), p + n = 192 → (∀ a i, a ≠ 8 → a ≠ 11 → a ≠ 12 → a ≠ 13 → a ≠ 14 → M a i = M0 a i) → (M 8 2 = 0 ∧ M 8 3 = 0 ∧ M 8 4 = 0) → (∀ i, i < 48 → M 11 i = 0 ∧ M 12 i = -1 ∧ M 13 i = 0) → (∀ i, i < p → M 14 i = 0) →
      mv_Run G 2 87 4749 52 [(0, .inr (.inr 8)), (1, .inl (p : Int))] [] (mh l) M (mv_qv (mh l) F) := by
    intro n
    induction n with
    | zero =>
      intro p M hn hfr h1 h2 h3
      refine vr_X0_clearAway_52 ?_
      rw [if_pos (by omega)]
      exact mv_qv_i (h M hfr h1 h2 (fun i hi => h3 i (by omega)))
    | succ n ih =>
      intro p M hn hfr h1 h2 h3
      refine vr_X0_clearAway_52 ?_
      rw [if_neg (by omega), Int.toNat_natCast]
      refine ⟨by omega, by omega, ih (p + 1) _ (by omega) (fun a i a1 a2 a3 a4 a5 => by rw [mv_up_n (fun z => a5 z.1)]; exact hfr a i a1 a2 a3 a4 a5) ?_ (fun i hi => ?_) (fun i hi => ?_)⟩
      · rw [mv_up_n (fun z => by omega), mv_up_n (fun z => by omega), mv_up_n (fun z => by omega)]
        exact h1
      · rw [mv_up_n (fun z => by omega), mv_up_n (fun z => by omega), mv_up_n (fun z => by omega)]
        exact h2 i hi
      · by_cases q : i = p
        · rw [q, mv_up_s]
        · rw [mv_up_n (fun z => q z.2)]
          exact h3 i (by omega)
  have key : ∀ (n p : Nat) (M : mv_Mem), p + n = 48 → (∀ a i, a ≠ 8 → a ≠ 11 → a ≠ 12 → a ≠ 13 → a ≠ 14 → M a i = M0 a i) → (M 8 2 = 0 ∧ M 8 3 = 0 ∧ M 8 4 = 0) → (∀ i, i < p → M 11 i = 0 ∧ M 12 i = -1 ∧ M 13 i = 0) →
      mv_Run G 2 87 4749 17 [(0, .inr (.inr 8)), (1, .inl (p : Int))] [] (mh l) M (mv_qv (mh l) F) := by
    intro n
    induction n with
    | zero =>
      intro p M hn hfr h1 h2
      refine vr_X0_clearAway_17 ?_
      rw [if_pos (by omega)]
      exact key2 192 0 M (by omega) hfr h1 (fun i hi => h2 i (by omega)) (fun i hi => by omega)
    | succ n ih =>
      intro p M hn hfr h1 h2
      refine vr_X0_clearAway_17 ?_
      rw [if_neg (by omega), Int.toNat_natCast]
      refine ⟨by omega, by omega, by omega, by omega, ih (p + 1) _ (by omega) (fun a i a1 a2 a3 a4 a5 => by rw [mv_up_n (fun z => a4 z.1), mv_up_n (fun z => a3 z.1), mv_up_n (fun z => a2 z.1)]; exact hfr a i a1 a2 a3 a4 a5) ?_ (fun i hi => ?_)⟩
      · have e : ∀ i, (mv_up (mv_up (mv_up M 11 p 0) 12 p (-1)) 13 p 0) 8 i = M 8 i := fun i => by
          rw [mv_up_n (fun z => by omega), mv_up_n (fun z => by omega), mv_up_n (fun z => by omega)]
        rw [e, e, e]
        exact h1
      · by_cases q : i = p
        · subst q
          refine ⟨?_, ?_, ?_⟩
          · rw [mv_up_n (fun z => by omega), mv_up_n (fun z => by omega), mv_up_s]
          · rw [mv_up_n (fun z => by omega), mv_up_s]
          · rw [mv_up_s]
        · obtain ⟨g1, g2, g3⟩ := h2 i (by omega)
          refine ⟨?_, ?_, ?_⟩
          · rw [mv_up_n (fun z => by omega), mv_up_n (fun z => by omega), mv_up_n (fun z => by omega)]
            exact g1
          · rw [mv_up_n (fun z => by omega), mv_up_n (fun z => by omega), mv_up_n (fun z => by omega)]
            exact g2
          · rw [mv_up_n (fun z => by omega), mv_up_n (fun z => by omega), mv_up_n (fun z => by omega)]
            exact g3
  refine vw_X0_clearAway ?_
  refine key 48 0 _ (by omega) (fun a i a1 _ _ _ _ => by rw [mv_up_n (fun z => a1 z.1), mv_up_n (fun z => a1 z.1), mv_up_n (fun z => a1 z.1)]) ⟨?_, ?_, ?_⟩ (fun i hi => by omega)
  · rw [mv_up_n (fun z => by omega), mv_up_n (fun z => by omega), mv_up_s]
  · rw [mv_up_n (fun z => by omega), mv_up_s]
  · rw [mv_up_s]
theorem cl_layOut (hw : sg_wf S) {M0 : mv_Mem} (hC : sg_C 0 S M0) {F : mv_Mem → Prop} {n W H : Nat} (hl : M0 2 1 = (n : Int)) (hn : n ≤ 60) (ht : sg_tx (M0 3) n W H)
    (h : ∀ M, (∀ a i, ¬ (8 ≤ a ∧ a ≤ 14) → M a i = M0 a i) → sg_C 0 (sg_rdS S (M0 3) W H) (mv_up M 30 0 0) → F M) :
    mv_Wp G 1 [.inr (.inr 8), .inr (.inr 2)] (mh l) M0 (mv_qv (mh l) F) := by
  obtain ⟨tW, tH, tn, tdig, tsl⟩ := id ht
  have hwd := hw.1.1
  have key : ∀ (m y x : Nat) (M : mv_Mem), y * (W + 1) + x + m = n → y < H → x ≤ W → (∀ a i, ¬ (8 ≤ a ∧ a ≤ 14) → M a i = M0 a i) → (M 8 2 = ((y * W + x : Nat) : Int) ∧ M 8 3 = 0 ∧ M 8 4 = 0) → (∀ i, i < 48 → M 11 i = 0 ∧ M 12 i = -1 ∧ M 13 i = 0) → (∀ i, i < 192 → M 14 i = 0) →
      (∀ y' x', x' < W → y' * W + x' < y * W + x → M 10 (y' * W + x') = M0 3 (y' * (W + 1) + x') - 48 ∧ M 9 (y' * W + x') = ((10 * x' + y' : Nat) : Int)) →
      mv_Run G 1 87 4749 11 [(0, .inr (.inr 8)), (1, .inr (.inr 2)), (2, .inl (x : Int)), (3, .inl (y : Int)), (4, .inl ((y * (W + 1) + x : Nat) : Int))] [] (mh l) M (mv_qv (mh l) F) := by
    intro m
    induction m with
    | zero =>
      intro y x M hm hy hx hfr h8 h11 h14 hd
      refine vr_X0_layOut_11 ?_
      have c1 : M 2 1 = (n : Int) := (hfr 2 1 (by omega)).trans hl
      rw [c1, if_pos (by omega)]
      -- it is the end of the last line
      have hyH : y + 1 = H := by
        rcases Nat.lt_or_ge (y + 1) H with z | z
        · exfalso
          have z2 : (y + 1 + 1) * (W + 1) ≤ H * (W + 1) := Nat.mul_le_mul_right _ z
          rw [Nat.succ_mul, Nat.succ_mul] at z2
          omega
        · omega
      have hxW : x = W := by
        rw [← hyH, Nat.succ_mul] at tn
        omega
      subst hxW
      have hyW : y * x + x = H * x := by rw [← hyH, Nat.succ_mul]
      refine ⟨by omega, mv_qv_i (h _ (fun a i ha => by rw [mv_up_n (fun z => ha (by omega)), mv_up_n (fun z => ha (by omega))]; exact hfr a i ha) ?_)⟩
      have g : ∀ a i, a ≠ 8 → a ≠ 30 → (mv_up (mv_up (mv_up M 8 0 (x : Int)) 8 1 ((y : Int) + 1)) 30 0 0) a i = M a i := fun a i a1 a2 => by
        rw [mv_up_n (fun z => a2 z.1), mv_up_n (fun z => a1 z.1), mv_up_n (fun z => a1 z.1)]
      have gM : ∀ a i, ¬ (8 ≤ a ∧ a ≤ 14) → a ≠ 30 → (mv_up (mv_up (mv_up M 8 0 (x : Int)) 8 1 ((y : Int) + 1)) 30 0 0) a i = M0 a i := fun a i a1 a2 => (g a i (by omega) a2).trans (hfr a i a1)
      refine ⟨⟨?_, ?_, ?_, ?_, ?_⟩, fun k hk => ?_, fun m hm => ?_, fun i hi => (gM 16 i (by omega) (by decide)).trans (hC.2.2.2.1 i hi), ⟨(gM 17 0 (by omega) (by decide)).trans hC.2.2.2.2.1.1, (gM 17 1 (by omega) (by decide)).trans hC.2.2.2.2.1.2⟩, fun i hi => ?_, fun i hi => ?_, fun i hi => ?_, ?_, fun p hp => ?_⟩
      · show (mv_up (mv_up (mv_up M 8 0 (x : Int)) 8 1 ((y : Int) + 1)) 30 0 0) 8 0 = (x : Int)
        rw [mv_up_n (fun z => by omega), mv_up_n (fun z => by omega), mv_up_s]
      · show (mv_up (mv_up (mv_up M 8 0 (x : Int)) 8 1 ((y : Int) + 1)) 30 0 0) 8 1 = (H : Int)
        rw [mv_up_n (fun z => by omega), mv_up_s]
        omega
      · show (mv_up (mv_up (mv_up M 8 0 (x : Int)) 8 1 ((y : Int) + 1)) 30 0 0) 8 2 = (x : Int) * (H : Int)
        rw [mv_up_n (fun z => by omega), mv_up_n (fun z => by omega), mv_up_n (fun z => by omega), h8.1, hyW, Int.natCast_mul, Int.mul_comm]
      · show (mv_up (mv_up (mv_up M 8 0 (x : Int)) 8 1 ((y : Int) + 1)) 30 0 0) 8 3 = 0
        rw [mv_up_n (fun z => by omega), mv_up_n (fun z => by omega), mv_up_n (fun z => by omega), h8.2.1]
      · show (mv_up (mv_up (mv_up M 8 0 (x : Int)) 8 1 ((y : Int) + 1)) 30 0 0) 8 4 = 0
        rw [mv_up_n (fun z => by omega), mv_up_n (fun z => by omega), mv_up_n (fun z => by omega), h8.2.2]
      · have hk1 : k % 8 < x := by
          have : ((k % 8 : Nat) : Int) < (x : Int) := hk.1
          omega
        have hk2 : k / 8 < H := by
          have : ((k / 8 : Nat) : Int) < (H : Int) := hk.2
          omega
        have epl : sg_pl (sg_rdS S (M0 3) x H) k = k / 8 * x + k % 8 := rfl
        have hlt : k / 8 * x + k % 8 < y * x + x := by
          have z : (k / 8 + 1) * x ≤ (y + 1) * x := Nat.mul_le_mul_right _ (by omega)
          rw [Nat.succ_mul, Nat.succ_mul] at z
          omega
        have h48 : y * x + x ≤ 48 := by
          rw [hyW]
          exact Nat.le_trans (Nat.mul_le_mul tH.2 tW.2) (by decide)
        obtain ⟨q1, q2⟩ := hd (k / 8) (k % 8) hk1 hlt
        obtain ⟨q3, q4, q5⟩ := h11 (k / 8 * x + k % 8) (by omega)
        have es : sg_rdS S (M0 3) x H 1 k = M0 3 (k / 8 * (x + 1) + k % 8) - 48 := by
          show (if k % 8 < x ∧ k / 8 < H then M0 3 (k / 8 * (x + 1) + k % 8) - 48 else 0) = _
          rw [if_pos ⟨hk1, hk2⟩]
        rw [epl, es]
        refine ⟨(g 9 _ (by decide) (by decide)).trans q2, (g 10 _ (by decide) (by decide)).trans q1, (g 11 _ (by decide) (by decide)).trans q3, (g 12 _ (by decide) (by decide)).trans q4, (g 13 _ (by decide) (by decide)).trans q5, fun d hd4 => (g 14 _ (by decide) (by decide)).trans (h14 _ (by omega))⟩
      · have : (m : Int) < 0 := hm
        omega
      · have q := hC.2.2.2.2.2.1 i hi
        have ey : ∀ n, sg_ys (sg_rdS S (M0 3) x H) i n = sg_ys S i n := by
          intro n
          induction n with
          | zero => rfl
          | succ n ihn =>
            show sg_ys (sg_rdS S (M0 3) x H) i n + S 14 (6 * i + n) = sg_ys S i n + S 14 (6 * i + n)
            rw [ihn]
        exact ⟨(gM 18 i (by omega) (by decide)).trans q.1, (gM 19 i (by omega) (by decide)).trans q.2.1, (gM 20 i (by omega) (by decide)).trans q.2.2.1, (gM 21 i (by omega) (by decide)).trans q.2.2.2.1, (gM 22 i (by omega) (by decide)).trans q.2.2.2.2.1, (gM 23 i (by omega) (by decide)).trans q.2.2.2.2.2.1, (gM 24 i (by omega) (by decide)).trans q.2.2.2.2.2.2.1, (gM 25 i (by omega) (by decide)).trans (q.2.2.2.2.2.2.2.trans (ey _).symm)⟩
      · have q := hC.2.2.2.2.2.2.1 i hi
        exact ⟨(gM 26 i (by omega) (by decide)).trans q.1, (gM 27 i (by omega) (by decide)).trans q.2⟩
      · have q := hC.2.2.2.2.2.2.2.1 i hi
        exact ⟨(gM 28 i (by omega) (by decide)).trans q.1, (gM 29 i (by omega) (by decide)).trans q.2⟩
      · show (mv_up (mv_up (mv_up M 8 0 (x : Int)) 8 1 ((y : Int) + 1)) 30 0 0) 30 0 = 0
        rw [mv_up_s]
      · have : (p : Int) < 0 := hp
        omega
    | succ m ih =>
      intro y x M hm hy hx hfr h8 h11 h14 hd
      refine vr_X0_layOut_11 ?_
      have c1 : M 2 1 = (n : Int) := (hfr 2 1 (by omega)).trans hl
      have c3 : M 3 (y * (W + 1) + x) = M0 3 (y * (W + 1) + x) := hfr 3 _ (by omega)
      rw [c1, if_neg (by omega), Int.toNat_natCast, c3]
      refine ⟨by omega, ?_⟩
      by_cases hxW : x = W
      · subst hxW
        have hyH : y + 1 < H := by
          rcases Nat.lt_or_ge (y + 1) H with z | z
          · exact z
          · exfalso
            have : H = y + 1 := by omega
            rw [this, Nat.succ_mul] at tn
            omega
        rw [if_pos (tsl y hyH)]
        have K := ih (y + 1) 0 M (by rw [Nat.succ_mul]; omega) hyH (by omega) hfr (by rw [Nat.succ_mul, Nat.add_zero]; exact h8) h11 h14 (fun y' x' h1 h2 => hd y' x' h1 (by rw [Nat.succ_mul] at h2; omega))
        have e : (((y + 1) * (x + 1) + 0 : Nat) : Int) = ((y * (x + 1) + x : Nat) : Int) + 1 := by
          rw [Nat.succ_mul]
          omega
        rw [e] at K
        exact ⟨by omega, by omega, K⟩
      · have hdg := tdig y x hy (by omega)
        have hlt : y * W + x < 48 := by
          have z : (y + 1) * W ≤ H * W := Nat.mul_le_mul_right _ (by omega)
          have z2 : H * W ≤ 6 * 8 := Nat.mul_le_mul tH.2 tW.2
          rw [Nat.succ_mul] at z
          omega
        have e8 : ∀ v, (mv_up M 10 (y * W + x) v) 8 2 = ((y * W + x : Nat) : Int) := fun v => by
          rw [mv_up_n (fun z => by omega)]
          exact h8.1
        have e9 : ∀ v w, (mv_up (mv_up M 10 (y * W + x) v) 9 (y * W + x) w) 8 2 = ((y * W + x : Nat) : Int) := fun v w => by
          rw [mv_up_n (fun z => by omega)]
          exact e8 v
        rw [if_neg (by omega), h8.1, if_neg (by omega), Int.toNat_natCast, e8, Int.toNat_natCast, e9]
        refine ⟨by omega, by omega, by omega, by omega, by omega, by omega, by omega, by omega, by omega, ?_⟩
        have K := ih y (x + 1) (mv_up (mv_up (mv_up M 10 (y * W + x) (M0 3 (y * (W + 1) + x) - 48)) 9 (y * W + x) (10 * (x : Int) + (y : Int))) 8 2 (((y * W + x : Nat) : Int) + 1)) (by omega) hy (by omega) (fun a i ha => by
          rw [mv_up_n (fun z => by omega), mv_up_n (fun z => by omega), mv_up_n (fun z => by omega)]
          exact hfr a i ha) ⟨by rw [mv_up_s]; omega, by rw [mv_up_n (fun z => by omega), mv_up_n (fun z => by omega), mv_up_n (fun z => by omega)]; exact h8.2.1, by rw [mv_up_n (fun z => by omega), mv_up_n (fun z => by omega), mv_up_n (fun z => by omega)]; exact h8.2.2⟩ (fun i hi => by
          have e : ∀ a, a ≠ 8 → a ≠ 9 → a ≠ 10 → (mv_up (mv_up (mv_up M 10 (y * W + x) (M0 3 (y * (W + 1) + x) - 48)) 9 (y * W + x) (10 * (x : Int) + (y : Int))) 8 2 (((y * W + x : Nat) : Int) + 1)) a i = M a i := fun a a1 a2 a3 => by
            rw [mv_up_n (fun z => a1 z.1), mv_up_n (fun z => a2 z.1), mv_up_n (fun z => a3 z.1)]
          rw [e 11 (by decide) (by decide) (by decide), e 12 (by decide) (by decide) (by decide), e 13 (by decide) (by decide) (by decide)]
          exact h11 i hi) (fun i hi => by
          rw [mv_up_n (fun z => by omega), mv_up_n (fun z => by omega), mv_up_n (fun z => by omega)]
          exact h14 i hi) (fun y' x' h1 h2 => by
          by_cases q : y' * W + x' = y * W + x
          · have hyy : y' = y := by
              rcases Nat.lt_trichotomy y' y with z | z | z
              · exfalso
                have : (y' + 1) * W ≤ y * W := Nat.mul_le_mul_right _ z
                rw [Nat.succ_mul] at this
                omega
              · exact z
              · exfalso
                have : (y + 1) * W ≤ y' * W := Nat.mul_le_mul_right _ z
                rw [Nat.succ_mul] at this
                omega
            subst hyy
            have hxx : x' = x := by omega
            subst hxx
            refine ⟨?_, ?_⟩
            · rw [mv_up_n (fun z => by omega), mv_up_n (fun z => by omega), mv_up_s]
            · rw [mv_up_n (fun z => by omega), mv_up_s]
              omega
          · obtain ⟨g1, g2⟩ := hd y' x' h1 (by omega)
            refine ⟨?_, ?_⟩
            · rw [mv_up_n (fun z => by omega), mv_up_n (fun z => by omega), mv_up_n (fun z => q z.2)]
              exact g1
            · rw [mv_up_n (fun z => by omega), mv_up_n (fun z => q z.2), mv_up_n (fun z => by omega)]
              exact g2)
        have e : ((y * (W + 1) + (x + 1) : Nat) : Int) = ((y * (W + 1) + x : Nat) : Int) + 1 := by omega
        rw [e] at K
        exact K
  refine vw_X0_layOut ?_
  refine cl_clearAway (fun M1 f1 g1 g2 g3 => ?_)
  have K := key n 0 0 M1 (by omega) (by omega) (by omega) (fun a i ha => f1 a i (by omega) (by omega) (by omega) (by omega) (by omega)) (by rw [Nat.zero_mul]; exact g1) g2 g3 (fun y' x' h1 h2 => by omega)
  rw [Nat.zero_mul] at K
  exact K
/-! images -/
theorem mv_cp_n {s a d b n c i : Nat} (h : c ≠ d) : mv_cp M s a d b n c i = M c i := if_neg (fun z => h z.1)
theorem mv_up_c {a j c i : Nat} {v : Int} (h : c ≠ a) : mv_up M a j v c i = M c i := if_neg (fun z => h z.1)
theorem mv_up_j {a j i : Nat} {v : Int} (h : i ≠ j) : mv_up M a j v a i = M a i := if_neg (fun z => h z.2)
theorem mv_cp_y {s d i : Nat} {n : Int} (hi : (i : Int) < n) : mv_cp M s (Int.toNat 0) d (Int.toNat 0) (Int.toNat n) d i = M s i := by
  unfold mv_cp
  rw [if_pos ⟨rfl, Nat.zero_le _, show i < 0 + n.toNat by omega⟩]
  show M s (0 + (i - 0)) = M s i
  rw [Nat.zero_add, Nat.sub_zero]
end TX
