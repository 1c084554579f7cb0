/-! THE MODEL READS A LAND -/
section MN
variable {S : mv_Mem} {G : mv_G} {l c : Nat} {M : mv_Mem} {F : Int → mv_Mem → Prop}
/-- what a reading leaves as it was -/
def sg_frr (M M' : mv_Mem) : Prop := ∀ a i, a ≠ 94 → ¬ (a = 88 ∧ (i = 10 ∨ i = 11 ∨ i = 12)) → M' a i = M a i
theorem md_sign {t : Nat → Int} {n i : Nat} (hn : n ≤ 60) (h7 : M 88 7 = (n : Int)) (h90 : ∀ i, i < n → M 90 i = t i) (h10 : M 88 10 = (i : Int)) (h : F (if i < n then t i else -1) M) : mv_Wp G 138 [.inr (.inr 88)] (mh l) M (mv_qi (mh l) F) := by
  refine vw_X12_sign ?_
  rw [h7, h10]
  by_cases q : i < n
  · rw [if_pos q] at h
    rw [if_neg (by omega), Int.toNat_natCast, h90 i q]
    exact ⟨by omega, mv_qi_i h⟩
  · rw [if_neg q] at h
    rw [if_pos (by omega)]
    exact mv_qi_i h
/-- what is read behind a line that is whole -/
def sg_af (t : Nat → Int) (n i W Y : Nat) : Int × Int × Int := if i = n then (-1, (W : Int), (Y : Int)) else if t i = 47 then (if Y = 6 then ((i : Int), 0, 0) else sg_pr t n (n - i - 1) (i + 1) W Y 0) else ((i : Int), 0, 0)
theorem sg_pr_0 {t : Nat → Int} {n i : Nat} {w y x : Int} : sg_pr t n 0 i w y x = if x = 0 ∨ (0 < y ∧ x < w) then ((n : Int), 0, 0) else (-1, (if y = 0 then x else w), y + 1) := rfl
theorem sg_pr_s {t : Nat → Int} {n i f : Nat} {w y x : Int} : sg_pr t n (f + 1) i w y x = if t i = 47 then (if x = 0 ∨ (0 < y ∧ x < w) ∨ y + 1 = 6 then ((i : Int), 0, 0) else sg_pr t n f (i + 1) x (y + 1) 0) else if (48 ≤ t i ∧ t i ≤ 57) ∧ x ≠ w then sg_pr t n f (i + 1) w y (x + 1) else ((i : Int), 0, 0) := rfl
theorem md_readsLine {t : Nat → Int} {n i0 Y W : Nat} {M0 : mv_Mem} (hn : n ≤ 60) (h7 : M0 88 7 = (n : Int)) (h90 : ∀ i, i < n → M0 90 i = t i) (ht : ∀ i, i < n → 0 ≤ t i ∧ t i ≤ 255) (h10 : M0 88 10 = (i0 : Int)) (h12 : M0 88 12 = (Y : Int)) (hi : i0 ≤ n) (hY : Y ≤ 5)
    (hW : if Y = 0 then W = 8 else M0 88 11 = (W : Int) ∧ 1 ≤ W ∧ W ≤ 8)
    (hno : ∀ (M' : mv_Mem) (j : Nat), sg_frr M0 M' → M' 88 10 = (j : Int) → j ≤ n → sg_pr t n (n - i0) i0 W Y 0 = ((j : Int), 0, 0) → F 0 M')
    (hyes : ∀ (M' : mv_Mem) (X : Nat), sg_frr M0 M' → M' 88 10 = ((i0 + X : Nat) : Int) → i0 + X ≤ n → (if Y = 0 then 1 ≤ X ∧ X ≤ 8 else X = W) → M' 88 11 = (X : Int) → M' 88 12 = ((Y + 1 : Nat) : Int) → (∀ x, x < X → M' 94 (8 * Y + x) = t (i0 + x) - 48) → (∀ z, z < 8 * Y → M' 94 z = M0 94 z) →
      sg_pr t n (n - i0) i0 W Y 0 = sg_af t n (i0 + X) X (Y + 1) → F 1 M') :
    mv_Wp G 139 [.inr (.inr 88)] (mh l) M0 (mv_qi (mh l) F) := by
  have key : ∀ (m X : Nat) (M : mv_Mem), i0 + X + m = n → X ≤ W → sg_frr M0 M → M 88 10 = ((i0 + X : Nat) : Int) → M 88 11 = M0 88 11 → M 88 12 = (Y : Int) → (∀ x, x < X → M 94 (8 * Y + x) = t (i0 + x) - 48) → (∀ z, z < 8 * Y → M 94 z = M0 94 z) → sg_pr t n (n - i0) i0 W Y 0 = sg_pr t n m (i0 + X) W Y X →
      mv_Run G 139 136 7420 19 [(0, .inr (.inr 88)), (1, .inl (X : Int)), (2, .inl (W : Int))] [] (mh l) M (mv_qi (mh l) F) := by
    intro m
    induction m with
    | zero =>
      intro X M hX hXW f1 f10 f11 f12 f94 f94' hp
      refine vr_X12_readsLine_19 (md_sign (t := t) (n := n) (i := i0 + X) hn ((f1 88 7 (by decide) (by decide)).trans h7) (fun i hi => (f1 90 i (by decide) (by omega)).trans (h90 i hi)) f10 (md_isIn (fun q => ?_) (fun q => ?_)))
      · rw [if_neg (by omega)] at q
        omega
      · rw [if_pos rfl, f12]
        rw [sg_pr_0] at hp
        by_cases y0 : Y = 0
        · subst y0
          rw [if_pos rfl] at hW
          have z0 : ∀ x : Int, mv_up M 88 11 x 88 12 = ((0 : Nat) : Int) := fun x => (mv_up_j (by decide)).trans f12
          have z1 : ∀ x y : Int, mv_up (mv_up M 88 11 x) 88 12 y 88 11 = x := fun x y => (mv_up_j (by decide)).trans mv_up_s
          rw [if_pos (by rfl), z0, z1]
          refine ⟨by omega, ?_⟩
          by_cases x0 : X = 0
          · subst x0
            rw [if_pos (by omega)] at hp
            rw [if_pos (by omega)]
            exact ⟨by decide, mv_qi_i (hno _ n (fun a i h1 h2 => by rw [mv_up_n (by omega), mv_up_n (by omega)]; exact f1 a i h1 h2) (by rw [mv_up_j (by decide), mv_up_j (by decide), f10]; omega) (by omega) hp)⟩
          · rw [if_neg (by omega), if_pos (by omega)] at hp
            rw [if_neg (by omega), if_pos rfl]
            refine ⟨by decide, mv_qi_i (hyes _ X (fun a i h1 h2 => by rw [mv_up_n (by omega), mv_up_n (by omega)]; exact f1 a i h1 h2) (by rw [mv_up_j (by decide), mv_up_j (by decide), f10]) (by omega) (by rw [if_pos rfl]; omega) (by rw [mv_up_j (by decide), mv_up_s]) (by rw [mv_up_s]; rfl) (fun x hx => by rw [mv_up_c (by decide), mv_up_c (by decide)]; exact f94 x hx) (fun z hz => by omega) ?_)⟩
            rw [hp]
            unfold sg_af
            rw [if_pos (by omega)]
            rfl
        · rw [if_neg y0] at hW
          rw [if_neg (by omega), mv_up_j (show 11 ≠ 12 by decide), f11, hW.1]
          refine ⟨by omega, ?_⟩
          by_cases x0 : X = 0
          · subst x0
            rw [if_pos (by omega)] at hp
            rw [if_pos (by omega)]
            exact ⟨by decide, mv_qi_i (hno _ n (fun a i h1 h2 => by rw [mv_up_n (by omega)]; exact f1 a i h1 h2) (by rw [mv_up_j (by decide), f10]; omega) (by omega) hp)⟩
          · rw [if_neg (by omega)]
            by_cases xw : X = W
            · subst xw
              rw [if_neg (by omega), if_neg (by omega)] at hp
              rw [if_pos rfl]
              refine ⟨by decide, mv_qi_i (hyes _ X (fun a i h1 h2 => by rw [mv_up_n (by omega)]; exact f1 a i h1 h2) (by rw [mv_up_j (by decide), f10]) (by omega) (by rw [if_neg y0]) (by rw [mv_up_j (by decide), f11, hW.1]) (by rw [mv_up_s]; omega) (fun x hx => by rw [mv_up_c (by decide)]; exact f94 x hx) (fun z hz => by rw [mv_up_c (by decide)]; exact f94' z hz) ?_)⟩
              rw [hp]
              unfold sg_af
              rw [if_pos (by omega)]
              rfl
            · rw [if_pos (Or.inr ⟨by omega, by omega⟩)] at hp
              rw [if_neg (by omega)]
              exact ⟨by decide, mv_qi_i (hno _ n (fun a i h1 h2 => by rw [mv_up_n (by omega)]; exact f1 a i h1 h2) (by rw [mv_up_j (by decide), f10]; omega) (by omega) hp)⟩
    | succ m ih =>
      intro X M hX hXW f1 f10 f11 f12 f94 f94' hp
      have hti := ht (i0 + X) (by omega)
      refine vr_X12_readsLine_19 (md_sign (t := t) (n := n) (i := i0 + X) hn ((f1 88 7 (by decide) (by decide)).trans h7) (fun i hi => (f1 90 i (by decide) (by omega)).trans (h90 i hi)) f10 (md_isIn (fun q => ?_) (fun q => ?_)))
      · rw [if_pos (by omega)] at q
        rw [sg_pr_s] at hp
        rw [if_neg (by omega)] at hp
        rw [if_neg (by decide)]
        by_cases xw : X = W
        · subst xw
          rw [if_neg (fun z => z.2 rfl)] at hp
          rw [if_pos rfl]
          exact ⟨by decide, mv_qi_i (hno _ (i0 + X) f1 f10 (by omega) hp)⟩
        · rw [if_pos ⟨q, by omega⟩] at hp
          have hW8 : W ≤ 8 := by
            split at hW
            · omega
            · exact hW.2.2
          rw [if_neg (by omega), f12]
          refine ⟨by omega, by omega, md_sign (t := t) (n := n) (i := i0 + X) hn ((f1 88 7 (by decide) (by decide)).trans h7) (fun i hi => (f1 90 i (by decide) (by omega)).trans (h90 i hi)) f10 ?_⟩
          rw [if_pos (by omega), mv_up_c (show (88 : Nat) ≠ 94 by decide), f10, show (8 * (Y : Int) + (X : Int)).toNat = 8 * Y + X by omega]
          refine ⟨by omega, by omega, by omega, by omega, ih (X + 1) _ (by omega) (by omega) (fun a i h1 h2 => ?_) ?_ ?_ ?_ (fun x hx => ?_) (fun z hz => ?_) hp⟩
          · rw [mv_up_n (by omega), mv_up_c h1]
            exact f1 a i h1 h2
          · rw [mv_up_s]
            omega
          · rw [mv_up_j (by decide), mv_up_c (by decide)]
            exact f11
          · rw [mv_up_j (by decide), mv_up_c (by decide)]
            exact f12
          · rw [mv_up_c (by decide)]
            by_cases y : x = X
            · rw [y, mv_up_s]
            · rw [mv_up_j (by omega)]
              exact f94 x (by omega)
          · rw [mv_up_c (by decide), mv_up_j (by omega)]
            exact f94' z hz
      · rw [if_pos (by omega)] at q
        rw [if_pos rfl, f12]
        rw [sg_pr_s] at hp
        by_cases y0 : Y = 0
        · subst y0
          rw [if_pos rfl] at hW
          have z0 : ∀ x : Int, mv_up M 88 11 x 88 12 = ((0 : Nat) : Int) := fun x => (mv_up_j (by decide)).trans f12
          have z1 : ∀ x y : Int, mv_up (mv_up M 88 11 x) 88 12 y 88 11 = x := fun x y => (mv_up_j (by decide)).trans mv_up_s
          rw [if_pos (by rfl), z0, z1]
          refine ⟨by omega, ?_⟩
          by_cases x0 : X = 0
          · subst x0
            have hp2 : sg_pr t n (n - i0) i0 W (0 : Nat) 0 = (((i0 + 0 : Nat) : Int), 0, 0) := by
              rw [hp]
              by_cases s : t (i0 + 0) = 47
              · rw [if_pos s, if_pos (by omega)]
              · rw [if_neg s, if_neg (fun z => q z.1)]
            rw [if_pos (by omega)]
            exact ⟨by decide, mv_qi_i (hno _ (i0 + 0) (fun a i h1 h2 => by rw [mv_up_n (by omega), mv_up_n (by omega)]; exact f1 a i h1 h2) (by rw [mv_up_j (by decide), mv_up_j (by decide), f10]) (by omega) hp2)⟩
          · rw [if_neg (by omega), if_pos rfl]
            refine ⟨by decide, mv_qi_i (hyes _ X (fun a i h1 h2 => by rw [mv_up_n (by omega), mv_up_n (by omega)]; exact f1 a i h1 h2) (by rw [mv_up_j (by decide), mv_up_j (by decide), f10]) (by omega) (by rw [if_pos rfl]; omega) (by rw [mv_up_j (by decide), mv_up_s]) (by rw [mv_up_s]; rfl) (fun x hx => by rw [mv_up_c (by decide), mv_up_c (by decide)]; exact f94 x hx) (fun z hz => by omega) ?_)⟩
            rw [hp]
            unfold sg_af
            rw [if_neg (show ¬ i0 + X = n by omega), show n - (i0 + X) - 1 = m by omega]
            by_cases s : t (i0 + X) = 47
            · rw [if_pos s, if_pos s, if_neg (by omega), if_neg (by decide)]
              rfl
            · rw [if_neg s, if_neg s, if_neg (fun z => q z.1)]
        · rw [if_neg y0] at hW
          rw [if_neg (by omega), mv_up_j (show 11 ≠ 12 by decide), f11, hW.1]
          refine ⟨by omega, ?_⟩
          by_cases x0 : X = 0
          · subst x0
            have hp2 : sg_pr t n (n - i0) i0 W Y 0 = (((i0 + 0 : Nat) : Int), 0, 0) := by
              rw [hp]
              by_cases s : t (i0 + 0) = 47
              · rw [if_pos s, if_pos (by omega)]
              · rw [if_neg s, if_neg (fun z => q z.1)]
            rw [if_pos (by omega)]
            exact ⟨by decide, mv_qi_i (hno _ (i0 + 0) (fun a i h1 h2 => by rw [mv_up_n (by omega)]; exact f1 a i h1 h2) (by rw [mv_up_j (by decide), f10]) (by omega) hp2)⟩
          · rw [if_neg (by omega)]
            by_cases xw : X = W
            · subst xw
              rw [if_pos rfl]
              refine ⟨by decide, mv_qi_i (hyes _ X (fun a i h1 h2 => by rw [mv_up_n (by omega)]; exact f1 a i h1 h2) (by rw [mv_up_j (by decide), f10]) (by omega) (by rw [if_neg y0]) (by rw [mv_up_j (by decide), f11, hW.1]) (by rw [mv_up_s]; omega) (fun x hx => by rw [mv_up_c (by decide)]; exact f94 x hx) (fun z hz => by rw [mv_up_c (by decide)]; exact f94' z hz) ?_)⟩
              rw [hp]
              unfold sg_af
              rw [if_neg (show ¬ i0 + X = n by omega), show n - (i0 + X) - 1 = m by omega]
              by_cases s : t (i0 + X) = 47
              · rw [if_pos s, if_pos s]
                by_cases y6 : Y + 1 = 6
                · rw [if_pos (Or.inr (Or.inr (by omega))), if_pos y6]
                · rw [if_neg (by omega), if_neg y6]
                  rfl
              · rw [if_neg s, if_neg s, if_neg (fun z => q z.1)]
            · have hp2 : sg_pr t n (n - i0) i0 W Y 0 = (((i0 + X : Nat) : Int), 0, 0) := by
                rw [hp]
                by_cases s : t (i0 + X) = 47
                · rw [if_pos s, if_pos (Or.inr (Or.inl ⟨by omega, by omega⟩))]
                · rw [if_neg s, if_neg (fun z => q z.1)]
              rw [if_neg (by omega)]
              exact ⟨by decide, mv_qi_i (hno _ (i0 + X) (fun a i h1 h2 => by rw [mv_up_n (by omega)]; exact f1 a i h1 h2) (by rw [mv_up_j (by decide), f10]) (by omega) hp2)⟩
  refine vw_X12_readsLine ?_
  rw [h12]
  have k0 := key (n - i0) 0 M0 (by omega) (by omega) (fun _ _ _ _ => rfl) (by rw [h10]; rfl) rfl h12 (fun x hx => by omega) (fun _ _ => rfl) rfl
  by_cases y0 : Y = 0
  · rw [if_pos y0] at hW
    rw [if_pos (by omega)]
    subst hW
    exact k0
  · rw [if_neg y0] at hW
    rw [if_neg (by omega), hW.1]
    exact k0
theorem md_reads {t : Nat → Int} {n : Nat} {M0 : mv_Mem} (hn : n ≤ 60) (h7 : M0 88 7 = (n : Int)) (h90 : ∀ i, i < n → M0 90 i = t i) (ht : ∀ i, i < n → 0 ≤ t i ∧ t i ≤ 255)
    (hno : ∀ (M' : mv_Mem) (j : Nat), sg_frr M0 M' → M' 88 10 = (j : Int) → j ≤ n → sg_prs t n = ((j : Int), 0, 0) → F 0 M')
    (hyes2 : ∀ (M' : mv_Mem) (W H : Nat), sg_frr M0 M' → 1 ≤ W ∧ W ≤ 8 → 1 ≤ H ∧ H ≤ 6 → M' 88 11 = (W : Int) → M' 88 12 = (H : Int) → (∀ y x, y < H → x < W → M' 94 (8 * y + x) = t (y * (W + 1) + x) - 48) → sg_prs t n = (-1, (W : Int), (H : Int)) → F 1 M') :
    mv_Wp G 140 [.inr (.inr 88)] (mh l) M0 (mv_qi (mh l) F) := by
  have key : ∀ (m i Y W : Nat) (M : mv_Mem), i + m = n → 1 ≤ Y ∧ Y ≤ 6 → 1 ≤ W ∧ W ≤ 8 → i + 1 = Y * (W + 1) → sg_frr M0 M → M 88 10 = (i : Int) → M 88 11 = (W : Int) → M 88 12 = (Y : Int) → (∀ y x, y < Y → x < W → M 94 (8 * y + x) = t (y * (W + 1) + x) - 48) → sg_prs t n = sg_af t n i W Y →
      mv_Run G 140 136 7420 19 [(0, .inr (.inr 88))] [] (mh l) M (mv_qi (mh l) F) := by
    intro m
    induction m using Nat.strongRecOn with
    | ind m ih =>
      intro i Y W M hi hY hW hiY f1 f10 f11 f12 f94 hp
      have g7 : M 88 7 = (n : Int) := (f1 88 7 (by decide) (by decide)).trans h7
      have g90 : ∀ i, i < n → M 90 i = t i := fun i hi => (f1 90 i (by decide) (by omega)).trans (h90 i hi)
      unfold sg_af at hp
      refine vr_X12_reads_19 (md_sign (t := t) (n := n) (i := i) hn g7 g90 f10 ?_)
      by_cases e : i = n
      · rw [if_pos e] at hp
        rw [if_neg (show ¬ i < n by omega), if_neg (by decide), f10, g7, if_pos (by omega)]
        exact ⟨by decide, mv_qi_i (hyes2 M W Y f1 hW hY f11 f12 f94 hp)⟩
      · have hti := ht i (by omega)
        rw [if_neg e] at hp
        rw [if_pos (show i < n by omega)]
        by_cases s : t i = 47
        · rw [if_pos s] at hp
          rw [if_pos s, f12]
          by_cases y6 : Y = 6
          · rw [if_pos y6] at hp
            rw [if_pos (by omega)]
            exact ⟨by decide, mv_qi_i (hno M i f1 f10 (by omega) hp)⟩
          · rw [if_neg y6] at hp
            rw [if_neg (by omega), f10]
            have e1 : ∀ a j, ¬ (a = 88 ∧ j = 10) → mv_up M 88 10 ((i : Int) + 1) a j = M a j := fun a j h => mv_up_n h
            refine ⟨by omega, md_readsLine (t := t) (n := n) (i0 := i + 1) (Y := Y) (W := W) hn ((e1 88 7 (by decide)).trans g7) (fun i hi => (e1 90 i (by omega)).trans (g90 i hi)) ht (by rw [mv_up_s]; omega) ((e1 88 12 (by decide)).trans f12) (by omega) (by omega) (by rw [if_neg (by omega)]; exact ⟨(e1 88 11 (by decide)).trans f11, hW⟩) (fun M' j r1 r2 r3 r4 => ?_) (fun M' X r1 r2 r3 r4 r5 r6 r7 r8 r9 => ?_)⟩
            · rw [if_pos rfl]
              refine ⟨by decide, mv_qi_i (hno M' j (fun a i h1 h2 => (r1 a i h1 h2).trans ((e1 a i (by omega)).trans (f1 a i h1 h2))) r2 r3 ?_)⟩
              rw [hp, ← r4, show n - (i + 1) = n - i - 1 by omega]
            · rw [if_neg (show ¬ Y = 0 by omega)] at r4
              subst r4
              rw [if_neg (by decide)]
              refine ih (n - (i + 1 + X)) (by omega) (i + 1 + X) (Y + 1) X M' (by omega) (by omega) hW (by rw [Nat.succ_mul]; omega) (fun a i h1 h2 => (r1 a i h1 h2).trans ((e1 a i (by omega)).trans (f1 a i h1 h2))) r2 r5 r6 (fun y x hy hx => ?_) ?_
              · by_cases z : y = Y
                · subst z
                  rw [r7 x hx, hiY]
                · rw [r8 _ (by omega), e1 94 _ (by omega)]
                  exact f94 y x (by omega) hx
              · rw [hp, ← r9, show n - (i + 1) = n - i - 1 by omega]
        · rw [if_neg s] at hp
          rw [if_neg s, f10, g7, if_neg (by omega)]
          exact ⟨by decide, mv_qi_i (hno M i f1 f10 (by omega) hp)⟩
  refine vw_X12_reads ?_
  have e1 : ∀ a j, ¬ (a = 88 ∧ (j = 10 ∨ j = 12)) → mv_up (mv_up M0 88 10 0) 88 12 0 a j = M0 a j := fun a j h => by rw [mv_up_n (by omega), mv_up_n (by omega)]
  refine md_readsLine (t := t) (n := n) (i0 := 0) (Y := 0) (W := 8) hn ((e1 88 7 (by decide)).trans h7) (fun i hi => (e1 90 i (by omega)).trans (h90 i hi)) ht (by rw [mv_up_j (by decide), mv_up_s]; rfl) (by rw [mv_up_s]; rfl) (by omega) (by omega) (by rw [if_pos rfl]) (fun M' j r1 r2 r3 r4 => ?_) (fun M' X r1 r2 r3 r4 r5 r6 r7 r8 r9 => ?_)
  · rw [if_pos rfl]
    exact ⟨by decide, mv_qi_i (hno M' j (fun a i h1 h2 => (r1 a i h1 h2).trans (e1 a i (by omega))) r2 r3 r4)⟩
  · rw [if_pos rfl] at r4
    rw [if_neg (by decide)]
    refine key (n - (0 + X)) (0 + X) 1 X M' (by omega) (by omega) r4 (by omega) (fun a i h1 h2 => (r1 a i h1 h2).trans (e1 a i (by omega))) r2 r5 r6 (fun y x hy hx => ?_) r9
    have hy0 : y = 0 := by omega
    subst hy0
    rw [r7 x hx, Nat.zero_mul]
theorem ma_read (hS : sg_oo c S) (h : sg_MM S M) (hF : ∀ M', sg_Y M M' → sg_MM (sa_read S).2 M' → F (sa_read S).1 M') : mv_Wp G 141 [.inr (.inr 88)] (mh l) M (mv_qi (mh l) F) := by
  have hw := hS.1
  have hM := h.1
  have hl := hS.2.1
  have c7 : M 88 7 = (((S 30 0).toNat : Nat) : Int) := h.2.2.1.trans (by omega)
  unfold sa_read at hF
  refine vw_X12_read (md_reads (t := S 31) (n := (S 30 0).toNat) (by omega) c7 (fun i hi => h.2.2.2.1 i (by omega)) (fun i hi => hS.2.2.1 i) (fun M' j f1 f10 hj hp => ?_) (fun M' W H f1 hW hH f11 f12 f94 hp => ?_))
  · rw [hp] at hF
    dsimp only at hF
    rw [if_neg (by omega)] at hF
    have e1 : ∀ a i, ¬ (a = 88 ∧ i = 7) → mv_up M' 88 7 0 a i = M' a i := fun a i q => mv_up_n q
    rw [if_pos rfl, e1 88 10 (by decide), f10]
    have hsw : sg_sw S (mv_up S 30 0 0) := fun b i hb => mv_up_c (by omega)
    have hkp : sg_kp (mv_up S 30 0 0) = sg_kp S := sg_kp_up (by decide)
    have g : ∀ a i, a ≠ 94 → ¬ (a = 88 ∧ (i = 7 ∨ i = 10 ∨ i = 11 ∨ i = 12)) → mv_up M' 88 7 0 a i = M a i := fun a i q1 q2 => (e1 a i (by omega)).trans (f1 a i q1 (by omega))
    refine ⟨by omega, mv_qi_i (hF _ (fun a i ha => g a i (by omega) (by omega)) ?_)⟩
    obtain ⟨h1, h1b, h2, h3, h4, h5, h6, h7, h8⟩ := h
    refine ⟨sg_sw_Mo hsw (sg_Mo_fr h1 (fun a i ha => g a i (by unfold sg_mc at ha; omega) (by unfold sg_mc at ha; omega))), sg_sw_Rl hsw (sg_Rl_fr h1b (g 88 17 (by decide) (by decide)) (fun a i a1 a2 => g a i (by omega) (by omega))), ?_, fun i hi => ?_, ?_, fun i hi => ?_, fun i hi => ?_, ?_, fun z => ?_⟩
    · dsimp only
      rw [mv_up_s, mv_up_s]
    · dsimp only at hi
      rw [mv_up_s] at hi
      omega
    · exact (g 88 60 (by decide) (by decide)).trans h4
    · exact (g 135 i (by decide) (by omega)).trans (h5 i hi)
    · exact (g 89 i (by decide) (by omega)).trans (h6 i hi)
    · exact (g 88 62 (by decide) (by decide)).trans h7
    · dsimp only
      rw [hkp]
      exact sg_Ki_fr (h8 z) (fun i => g 136 i (by decide) (by omega))
  · rw [hp] at hF
    dsimp only at hF
    rw [if_pos rfl] at hF
    rw [Int.toNat_natCast, Int.toNat_natCast] at hF
    rw [if_neg (by decide)]
    have e1 : (mv_up M' 88 7 0) 88 11 = (W : Int) := (mv_up_j (by decide)).trans f11
    have e2 : ∀ x, (mv_up (mv_up M' 88 7 0) 88 8 x) 88 12 = (H : Int) := fun x => by
      rw [mv_up_j (by decide), mv_up_j (by decide)]
      exact f12
    rw [e1, e2]
    have WH : ((W : Int) * (H : Int) ≤ 48) ∧ 0 ≤ (W : Int) * (H : Int) := by
      have h1 : W * H ≤ 8 * 6 := Nat.mul_le_mul hW.2 hH.2
      have h2 : ((W * H : Nat) : Int) = (W : Int) * (H : Int) := Int.natCast_mul W H
      omega
    have key : ∀ (m k : Nat) (M1 : mv_Mem), k + m = 48 → (∀ a i, ¬ (91 ≤ a ∧ a ≤ 95) → ¬ (a = 88 ∧ (7 ≤ i ∧ i ≤ 12)) → M1 a i = M a i) → M1 88 7 = 0 → M1 88 8 = (W : Int) → M1 88 9 = (H : Int) → (∀ i, M1 94 i = M' 94 i) →
        (∀ i, i < k → M1 91 i = M' 94 i ∧ M1 92 i = 0 ∧ M1 93 i = -9 ∧ M1 95 i = 0) →
        mv_Run G 141 136 7420 40 [(0, .inr (.inr 88)), (2, .inl (k : Int))] [] (mh l) M1 (mv_qi (mh l) F) := by
      intro m
      induction m with
      | zero =>
        intro k M1 hk g1 g7 g8 g9 g94 gk
        refine vr_X12_read_40 ?_
        have ek : k = 48 := by omega
        subst ek
        have e3 : ∀ a i, ¬ (a = 88 ∧ (i = 23 ∨ i = 17 ∨ i = 55)) → (mv_up (mv_up (mv_up M1 88 23 0) 88 17 0) 88 55 0) a i = M1 a i := fun a i q => by rw [mv_up_n (by omega), mv_up_n (by omega), mv_up_n (by omega)]
        rw [if_pos (by decide), e3 88 8 (by decide), e3 88 9 (by decide), g8, g9]
        have g1' : ∀ a i, ¬ (91 ≤ a ∧ a ≤ 95) → ¬ (a = 88 ∧ ((7 ≤ i ∧ i ≤ 12) ∨ i = 17 ∨ i = 23 ∨ i = 55)) → (mv_up (mv_up (mv_up M1 88 23 0) 88 17 0) 88 55 0) a i = M a i := fun a i q1 q2 => (e3 a i (by omega)).trans (g1 a i q1 (by omega))
        refine ⟨by omega, mv_qi_i (hF _ (fun a i ha => g1' a i (by omega) (by omega)) ?_)⟩
        obtain ⟨h1, h1b, h2, h3, h4, h5, h6, h7, h8⟩ := h
        have ok : ∀ k, sg_ok (mv_up (sg_rdS S (S 31) W H) 30 0 0) k ↔ (k % 8 < W ∧ k / 8 < H) := fun k => by
          unfold sg_ok
          show ((k % 8 : Nat) : Int) < (W : Int) ∧ ((k / 8 : Nat) : Int) < (H : Int) ↔ _
          omega
        refine ⟨?_, ?_, ?_, fun i hi => ?_, ?_, fun i hi => ?_, fun i hi => ?_, ?_, fun z => ?_⟩
        · obtain ⟨⟨a1, a2, a3, a4, a5, a6⟩, b, b2, c', d', f', g', hhh, pr, j, p⟩ := h1
          refine ⟨⟨?_, ?_, ?_, ?_, ?_, ?_⟩, fun k hk => ?_, fun k hk hn => ?_, fun i hi => ?_, ?_, fun m hm => ?_, fun i hi => ?_, fun i hi => ?_, fun i hi => ?_, fun i hi => ?_, fun p hp => ?_⟩
          · exact (e3 88 8 (by decide)).trans g8
          · exact (e3 88 9 (by decide)).trans g9
          · show _ = (0 : Int)
            rw [mv_up_j (by decide), mv_up_j (by decide), mv_up_s]
          · exact (g1' 88 36 (by decide) (by decide)).trans a4
          · exact (g1' 88 37 (by decide) (by decide)).trans a5
          · show _ = (0 : Int)
            rw [mv_up_s]
          · have k2 := (ok k).1 hk
            have k48 : k < 48 := by omega
            obtain ⟨q1, q2, q3, q4⟩ := gk k k48
            rw [e3 91 k (by omega), e3 92 k (by omega), e3 93 k (by omega), e3 95 k (by omega), q1, q2, q3, q4]
            refine ⟨?_, rfl, rfl, rfl⟩
            show M' 94 k = (if k % 8 < W ∧ k / 8 < H then S 31 (k / 8 * (W + 1) + k % 8) - 48 else 0)
            rw [if_pos k2]
            have := f94 (k / 8) (k % 8) k2.2 k2.1
            rw [show 8 * (k / 8) + k % 8 = k by omega] at this
            exact this
          · rw [e3 95 k (by omega)]
            exact (gk k hk).2.2.2
          · exact (g1' 99 i (by decide) (by omega)).trans (c' i hi)
          · rw [g1' 101 0 (by decide) (by decide), g1' 101 1 (by decide) (by decide), g1' 101 2 (by decide) (by decide), g1' 101 3 (by decide) (by decide), g1' 102 0 (by decide) (by decide), g1' 102 1 (by decide) (by decide), g1' 102 2 (by decide) (by decide), g1' 102 3 (by decide) (by decide)]
            exact d'
          · have hm : (m : Int) < 0 := hm
            omega
          · rw [g1' 105 i (by decide) (by omega), g1' 106 i (by decide) (by omega), g1' 107 i (by decide) (by omega), g1' 108 i (by decide) (by omega), g1' 109 i (by decide) (by omega), g1' 110 i (by decide) (by omega), g1' 112 i (by decide) (by omega)]
            exact g' i hi
          · rw [g1' 111 i (by decide) (by omega)]
            exact hhh i hi
          · rw [g1' 113 i (by decide) (by omega), g1' 116 i (by decide) (by omega)]
            exact pr i hi
          · rw [g1' 114 i (by decide) (by omega), g1' 115 i (by decide) (by omega)]
            exact j i hi
          · have hp : (p : Int) < 0 := hp
            omega
        · show sg_Rl _ _ 0
          refine ⟨by omega, ?_, fun r hr => by omega, fun k d hk hd hh hne => absurd rfl hne, fun r r' k k' hr => by omega⟩
          rw [mv_up_j (by decide), mv_up_s]
          rfl
        · dsimp only
          rw [mv_up_s]
          exact (e3 88 7 (by decide)).trans g7
        · dsimp only at hi
          rw [mv_up_s] at hi
          omega
        · exact (g1' 88 60 (by decide) (by decide)).trans h4
        · exact (g1' 135 i (by decide) (by omega)).trans (h5 i hi)
        · exact (g1' 89 i (by decide) (by omega)).trans (h6 i hi)
        · exact (g1' 88 62 (by decide) (by decide)).trans h7
        · have z : S 35 0 = 1 := z
          have hkp : sg_kp (mv_up (sg_rdS S (S 31) W H) 30 0 0) = sg_kp S := by
            funext a i
            show (if 40 + a = 30 ∧ i = 0 then (0 : Int) else sg_rdS S (S 31) W H (40 + a) i) = S (40 + a) i
            rw [if_neg (by omega)]
            unfold sg_rdS
            rw [if_neg (by omega), if_neg (by omega), if_neg (by omega), if_neg (by omega)]
          dsimp only
          rw [hkp]
          exact sg_Ki_fr (h8 z) (fun i => g1' 136 i (by decide) (by omega))
      | succ m ih =>
        intro k M1 hk g1 g7 g8 g9 g94 gk
        refine vr_X12_read_40 ?_
        rw [if_neg (by omega), Int.toNat_natCast, g94 k]
        have e4 : ∀ a i, ¬ (91 ≤ a ∧ a ≤ 93) → a ≠ 95 → (mv_up (mv_up (mv_up (mv_up M1 91 k (M' 94 k)) 92 k 0) 93 k (-9)) 95 k 0) a i = M1 a i := fun a i q1 q2 => by rw [mv_up_c (by omega), mv_up_c (by omega), mv_up_c (by omega), mv_up_c (by omega)]
        refine ⟨by omega, by omega, by omega, by omega, ⟨by omega, by decide⟩, by omega, ih (k + 1) _ (by omega) (fun a i q1 q2 => (e4 a i (by omega) (by omega)).trans (g1 a i q1 q2)) ((e4 88 7 (by decide) (by decide)).trans g7) ((e4 88 8 (by decide) (by decide)).trans g8) ((e4 88 9 (by decide) (by decide)).trans g9) (fun i => (e4 94 i (by decide) (by decide)).trans (g94 i)) (fun i hi => ?_)⟩
        rw [mv_up_c (show (91 : Nat) ≠ 95 by decide), mv_up_c (show (91 : Nat) ≠ 93 by decide), mv_up_c (show (91 : Nat) ≠ 92 by decide), mv_up_c (show (92 : Nat) ≠ 95 by decide), mv_up_c (show (92 : Nat) ≠ 93 by decide), mv_up_c (show (93 : Nat) ≠ 95 by decide)]
        by_cases y : i = k
        · rw [y, mv_up_s, mv_up_s, mv_up_s, mv_up_s]
          exact ⟨rfl, rfl, rfl, rfl⟩
        · rw [mv_up_j y, mv_up_j y, mv_up_j y, mv_up_j y, mv_up_c (show (92 : Nat) ≠ 91 by decide), mv_up_c (show (93 : Nat) ≠ 92 by decide), mv_up_c (show (93 : Nat) ≠ 91 by decide), mv_up_c (show (95 : Nat) ≠ 93 by decide), mv_up_c (show (95 : Nat) ≠ 92 by decide), mv_up_c (show (95 : Nat) ≠ 91 by decide)]
          exact gk i (by omega)
    refine key 48 0 _ (by omega) (fun a i q1 q2 => ?_) ?_ ?_ ?_ (fun i => ?_) (fun i hi => by omega)
    · rw [mv_up_n (by omega), mv_up_n (by omega), mv_up_n (by omega)]
      exact f1 a i (by omega) (by omega)
    · rw [mv_up_j (by decide), mv_up_j (by decide), mv_up_s]
    · rw [mv_up_j (by decide), mv_up_s]
    · rw [mv_up_s]
    · rw [mv_up_c (by decide), mv_up_c (by decide), mv_up_c (by decide)]
end MN
