/-! THE CLASS's USES -/
def sg_yl (S : mv_Mem) (u : Nat) (s : Int) : Int := if S 8 u = 4 then S 9 u else S 9 u + S 10 u * s
def sg_mn (S : mv_Mem) (u : Nat) : Int := if S 15 u = 0 then 0 else (sg_ys S u (S 15 u).toNat).tdiv (S 15 u)
/-- what a use is worth on a soil at a market, without ways -/
def sg_wt (S : mv_Mem) (o : Nat) (s : Int) : Int := 100 * (sg_yl S (o / 3) s * (S 16 o + sg_mn S (o / 3)) - S 11 (o / 3) - S 13 (o / 3))
def sg_fa (S : mv_Mem) (u : Nat) : Int := if S 8 u = 1 then S 12 u / 2 else S 12 u
def sg_cr (S : mv_Mem) (u : Nat) (s : Int) : Int := sg_fa S u * sg_yl S u s
def sg_cg (S : mv_Mem) (u : Nat) (w : Int) : Prop := S 8 u ≠ 5 ∧ (S 8 u = 2 → w ≤ 60)
/-- how much of the pieces from i on, n of them, is bought at a price -/
def sg_bs (S : mv_Mem) (v : Int) : Nat → Nat → Int
  | 0, _ => 0
  | n + 1, i => (if v ≤ S 18 i then S 17 i else 0) + sg_bs S v n (i + 1)
def sg_bo (S : mv_Mem) (o : Nat) (v : Int) : Int := sg_bs S v (S 19 o).toNat (6 * o)
section US
variable {S : mv_Mem}
theorem sg_w8 (hw : sg_wf S) {i : Nat} (hi : i < 6) : (0 ≤ S 8 i ∧ S 8 i ≤ 5) ∧ (0 ≤ S 9 i ∧ S 9 i ≤ 99) ∧ (0 ≤ S 10 i ∧ S 10 i ≤ 99) ∧ (0 ≤ S 11 i ∧ S 11 i ≤ 9999) ∧ (0 ≤ S 12 i ∧ S 12 i ≤ 99) ∧ (0 ≤ S 13 i ∧ S 13 i ≤ 9999) ∧ (0 ≤ S 15 i ∧ S 15 i ≤ 6) :=
  have h := hw.2.2.2.2.1
  ⟨h.1 i hi, h.2.1 i hi, h.2.2.1 i hi, h.2.2.2.1 i hi, h.2.2.2.2.1 i hi, h.2.2.2.2.2.1 i hi, h.2.2.2.2.2.2.2 i hi⟩
theorem sg_w16 (hw : sg_wf S) {i : Nat} (hi : i < 18) : (0 ≤ S 16 i ∧ S 16 i ≤ 999) ∧ (0 ≤ S 19 i ∧ S 19 i ≤ 6) :=
  have h := hw.2.2.2.2.2.1
  ⟨h.1 i hi, h.2.2.2 i hi⟩
theorem sg_w17 (hw : sg_wf S) {i : Nat} (hi : i < 108) : (0 ≤ S 17 i ∧ S 17 i ≤ 9999) ∧ (0 ≤ S 18 i ∧ S 18 i ≤ 999) :=
  have h := hw.2.2.2.2.2.1
  ⟨h.2.1 i hi, h.2.2.1 i hi⟩
theorem sg_ys_b (hw : sg_wf S) {u : Nat} (hu : u < 6) : ∀ n : Nat, n ≤ 6 → -(99 * (n : Int)) ≤ sg_ys S u n ∧ sg_ys S u n ≤ 99 * (n : Int) := by
  intro n
  induction n with
  | zero => intro _; unfold sg_ys; omega
  | succ n ih =>
    intro hn
    have h1 := ih (by omega)
    have h2 := hw.2.2.2.2.1.2.2.2.2.2.2.1 (6 * u + n) (by omega)
    unfold sg_ys
    omega
theorem sg_mn_b (hw : sg_wf S) {u : Nat} (hu : u < 6) : -594 ≤ sg_mn S u ∧ sg_mn S u ≤ 594 := by
  unfold sg_mn
  split
  · omega
  · have h1 := (sg_w8 hw hu).2.2.2.2.2.2
    have h2 := sg_ys_b hw hu (S 15 u).toNat (by omega)
    have h3 : ((sg_ys S u (S 15 u).toNat).tdiv (S 15 u)).natAbs ≤ (sg_ys S u (S 15 u).toNat).natAbs := by
      rw [Int.natAbs_tdiv]
      exact Nat.div_le_self _ _
    omega
theorem sg_yl_b (hw : sg_wf S) {u : Nat} (hu : u < 6) {s : Int} (hs : 0 ≤ s ∧ s ≤ 9) : 0 ≤ sg_yl S u s ∧ sg_yl S u s ≤ 990 := by
  have h := sg_w8 hw hu
  have h1 : 0 ≤ S 10 u * s := Int.mul_nonneg h.2.2.1.1 hs.1
  have h2 : S 10 u * s ≤ 99 * 9 := Int.mul_le_mul h.2.2.1.2 hs.2 hs.1 (by omega)
  unfold sg_yl
  split <;> omega
theorem sg_fa_b (hw : sg_wf S) {u : Nat} (hu : u < 6) : 0 ≤ sg_fa S u ∧ sg_fa S u ≤ 99 := by
  have h := (sg_w8 hw hu).2.2.2.2.1
  unfold sg_fa
  split <;> omega
theorem sg_cr_b (hw : sg_wf S) {u : Nat} (hu : u < 6) {s : Int} (hs : 0 ≤ s ∧ s ≤ 9) : 0 ≤ sg_cr S u s ∧ sg_cr S u s ≤ 98010 := by
  have h1 := sg_fa_b hw hu
  have h2 := sg_yl_b hw hu hs
  have h3 : 0 ≤ sg_fa S u * sg_yl S u s := Int.mul_nonneg h1.1 h2.1
  have h4 : sg_fa S u * sg_yl S u s ≤ 99 * 990 := Int.mul_le_mul h1.2 h2.2 h2.1 (by omega)
  unfold sg_cr
  omega
theorem sg_mul_b {x y a b : Int} (hx : 0 ≤ x ∧ x ≤ a) (hy : -b ≤ y ∧ y ≤ b) : -(a * b) ≤ x * y ∧ x * y ≤ a * b := by
  have hb : 0 ≤ b := by omega
  have h1 : x * y ≤ x * b := Int.mul_le_mul_of_nonneg_left hy.2 hx.1
  have h2 : x * b ≤ a * b := Int.mul_le_mul_of_nonneg_right hx.2 hb
  have h3 : x * (-b) ≤ x * y := Int.mul_le_mul_of_nonneg_left hy.1 hx.1
  rw [Int.mul_neg] at h3
  omega
theorem sg_yp_b (hw : sg_wf S) {o : Nat} (ho : o < 18) {s : Int} (hs : 0 ≤ s ∧ s ≤ 9) : -1577070 ≤ sg_yl S (o / 3) s * (S 16 o + sg_mn S (o / 3)) ∧ sg_yl S (o / 3) s * (S 16 o + sg_mn S (o / 3)) ≤ 1577070 := by
  have h1 := sg_yl_b hw (show o / 3 < 6 by omega) hs
  have h2 := sg_mn_b hw (show o / 3 < 6 by omega)
  have h3 := (sg_w16 hw ho).1
  have h4 := sg_mul_b (a := 990) (b := 1593) h1 (y := S 16 o + sg_mn S (o / 3)) (by omega)
  omega
theorem sg_wt_b (hw : sg_wf S) {o : Nat} (ho : o < 18) {s : Int} (hs : 0 ≤ s ∧ s ≤ 9) : -160000000 ≤ sg_wt S o s ∧ sg_wt S o s ≤ 160000000 := by
  have h1 := sg_yp_b hw ho hs
  have h2 := sg_w8 hw (show o / 3 < 6 by omega)
  unfold sg_wt
  omega
theorem sg_bs_b (hw : sg_wf S) (v : Int) : ∀ (n i : Nat), i + n ≤ 108 → 0 ≤ sg_bs S v n i ∧ sg_bs S v n i ≤ 9999 * (n : Int) := by
  intro n
  induction n with
  | zero => intro i _; unfold sg_bs; omega
  | succ n ih =>
    intro i hi
    have h1 := ih (i + 1) (by omega)
    have h2 := sg_w17 hw (show i < 108 by omega)
    unfold sg_bs
    split <;> omega
variable {G : mv_G} {l : Nat} {M : mv_Mem} {F : Int → mv_Mem → Prop}
theorem cl_yieldOn (hw : sg_wf S) (hC : sg_C 0 S M) {u : Nat} {s : Int} (hu : u < 6) (hs : 0 ≤ s ∧ s ≤ 9) (h : F (sg_yl S u s) M) : mv_Wp G 61 [.inr (.inr 17), .inl (u : Int), .inl s] (mh l) M (mv_qi (mh l) F) := by
  refine vw_X7_yieldOn ?_
  have c := hC.2.2.2.2.2.1 u hu
  have c1 : M 18 u = S 8 u := c.1
  have c2 : M 19 u = S 9 u := c.2.1
  have c3 : M 20 u = S 10 u := c.2.2.1
  have hb := sg_w8 hw hu
  have h1 : 0 ≤ S 10 u * s := Int.mul_nonneg hb.2.2.1.1 hs.1
  have h2 : S 10 u * s ≤ 99 * 9 := Int.mul_le_mul hb.2.2.1.2 hs.2 hs.1 (by omega)
  rw [Int.toNat_natCast, c1, c2, c3]
  unfold sg_yl at h
  refine ⟨by omega, ?_⟩
  split
  · rename_i q
    rw [if_pos q] at h
    exact ⟨by omega, mv_qi_i h⟩
  · rename_i q
    rw [if_neg q] at h
    exact ⟨by omega, by omega, by omega, by omega, mv_qi_i h⟩
theorem cl_reckonedPrice (hw : sg_wf S) (hC : sg_C 0 S M) {o : Nat} (ho : o < 18) (h : F (S 16 o + sg_mn S (o / 3)) M) : mv_Wp G 62 [.inr (.inr 17), .inl (o : Int)] (mh l) M (mv_qi (mh l) F) := by
  refine vw_X7_reckonedPrice ?_
  have hu : o / 3 < 6 := by omega
  have c := hC.2.2.2.2.2.1 (o / 3) hu
  have c1 : M 24 (o / 3) = S 15 (o / 3) := c.2.2.2.2.2.2.1
  have c2 : M 25 (o / 3) = sg_ys S (o / 3) (S 15 (o / 3)).toNat := c.2.2.2.2.2.2.2
  have c3 : M 26 o = S 16 o := (hC.2.2.2.2.2.2.1 o ho).1
  have e1 : Int.tdiv (o : Int) 3 = ((o / 3 : Nat) : Int) := by rw [sg_td (by omega)]; omega
  rw [e1, Int.toNat_natCast, Int.toNat_natCast, c1, c2, c3]
  have hm := sg_mn_b hw hu
  have hp := (sg_w16 hw ho).1
  unfold sg_mn at h hm
  refine ⟨⟨by decide, by omega⟩, by omega, ?_⟩
  split
  · rename_i q
    rw [if_pos q, Int.add_zero] at h
    exact ⟨by omega, mv_qi_i h⟩
  · rename_i q
    rw [if_neg q] at h hm
    exact ⟨by omega, by omega, ⟨q, by omega⟩, by omega, mv_qi_i h⟩
theorem cl_payAtHome (hw : sg_wf S) (hC : sg_C 0 S M) {o : Nat} {s : Int} (ho : o < 18) (hs : 0 ≤ s ∧ s ≤ 9) (h : F (sg_wt S o s) M) : mv_Wp G 63 [.inr (.inr 17), .inl (o : Int), .inl s] (mh l) M (mv_ql (mh l) F) := by
  refine vw_X7_payAtHome ?_
  have hu : o / 3 < 6 := by omega
  have c := hC.2.2.2.2.2.1 (o / 3) hu
  have c1 : M 21 (o / 3) = S 11 (o / 3) := c.2.2.2.1
  have c2 : M 23 (o / 3) = S 13 (o / 3) := c.2.2.2.2.2.1
  have e1 : Int.tdiv (o : Int) 3 = ((o / 3 : Nat) : Int) := by rw [sg_td (by omega)]; omega
  have hb := sg_w8 hw hu
  have h1 := sg_yp_b hw ho hs
  rw [e1, Int.toNat_natCast]
  refine ⟨⟨by decide, by omega⟩, cl_yieldOn hw hC hu hs (cl_reckonedPrice hw hC ho ?_)⟩
  rw [c1, c2]
  unfold sg_wt at h
  exact ⟨by omega, by omega, by omega, by omega, by omega, by omega, mv_ql_i h⟩
theorem cl_carriage (hw : sg_wf S) (hC : sg_C 0 S M) {u : Nat} {s : Int} (hu : u < 6) (hs : 0 ≤ s ∧ s ≤ 9) (h : F (sg_cr S u s) M) : mv_Wp G 64 [.inr (.inr 17), .inl (u : Int), .inl s] (mh l) M (mv_ql (mh l) F) := by
  refine vw_X7_carriage ?_
  have c := hC.2.2.2.2.2.1 u hu
  have c1 : M 18 u = S 8 u := c.1
  have c2 : M 22 u = S 12 u := c.2.2.2.2.1
  have hb := sg_w8 hw hu
  have h1 := sg_cr_b hw hu hs
  unfold sg_cr sg_fa at h h1
  rw [Int.toNat_natCast, c1, c2, sg_td hb.2.2.2.2.1.1]
  refine ⟨by omega, ?_⟩
  split
  · rename_i q
    rw [if_pos q] at h h1
    exact ⟨by omega, ⟨by decide, by omega⟩, cl_yieldOn hw hC hu hs ⟨by omega, mv_ql_i h⟩⟩
  · rename_i q
    rw [if_neg q] at h h1
    exact ⟨by omega, cl_yieldOn hw hC hu hs ⟨by omega, mv_ql_i h⟩⟩
theorem cl_canGo (hC : sg_C 0 S M) {u : Nat} {w : Int} (hu : u < 6) (h1 : sg_cg S u w → F 1 M) (h0 : ¬ sg_cg S u w → F 0 M) : mv_Wp G 65 [.inr (.inr 17), .inl (u : Int), .inl w] (mh l) M (mv_qi (mh l) F) := by
  refine vw_X7_canGo ?_
  have c1 : M 18 u = S 8 u := (hC.2.2.2.2.2.1 u hu).1
  rw [Int.toNat_natCast, c1]
  refine ⟨by omega, ?_⟩
  split
  · rename_i q
    exact ⟨by omega, mv_qi_i (h0 (fun z => z.1 q))⟩
  · rename_i q
    refine ⟨by omega, ?_⟩
    split
    · rename_i q2
      split
      · rename_i q3
        exact ⟨by omega, mv_qi_i (h0 (fun z => by have := z.2 q2; omega))⟩
      · rename_i q3
        exact ⟨by omega, mv_qi_i (h1 ⟨q, fun _ => by omega⟩)⟩
    · rename_i q2
      exact ⟨by omega, mv_qi_i (h1 ⟨q, fun z => absurd z q2⟩)⟩
theorem cl_boughtAt (hw : sg_wf S) (hC : sg_C 0 S M) {o : Nat} {v : Int} (ho : o < 18) (h : F (sg_bo S o v) M) : mv_Wp G 66 [.inr (.inr 17), .inl (o : Int), .inl v] (mh l) M (mv_qi (mh l) F) := by
  have c1 : M 27 o = S 19 o := (hC.2.2.2.2.2.2.1 o ho).2
  have hb := (sg_w16 hw ho).2
  have key : ∀ (n i : Nat) (x : Int), 6 * o ≤ i → ((i + n : Nat) : Int) = ((6 * o : Nat) : Int) + S 19 o → 0 ≤ x → x ≤ 9999 * ((i : Int) - 6 * o) → F (x + sg_bs S v n i) M →
      mv_Run G 66 87 4749 8 [(0, .inr (.inr 17)), (1, .inl (o : Int)), (2, .inl v), (3, .inl x), (4, .inl (i : Int))] [] (mh l) M (mv_qi (mh l) F) := by
    intro n
    induction n with
    | zero =>
      intro i x hi hn hx hx2 hF
      refine vr_X7_boughtAt_8 ?_
      rw [Int.toNat_natCast, c1, if_pos (by omega)]
      unfold sg_bs at hF
      rw [Int.add_zero] at hF
      exact ⟨by omega, by omega, by omega, mv_qi_i hF⟩
    | succ n ih =>
      intro i x hi hn hx hx2 hF
      refine vr_X7_boughtAt_8 ?_
      have c := hC.2.2.2.2.2.2.2.1 i (by omega)
      have c2 : M 28 i = S 17 i := c.1
      have c3 : M 29 i = S 18 i := c.2
      have hb2 := sg_w17 hw (show i < 108 by omega)
      rw [Int.toNat_natCast, Int.toNat_natCast, c1, c2, c3, if_neg (by omega)]
      unfold sg_bs at hF
      refine ⟨by omega, by omega, by omega, by omega, ?_⟩
      split
      · rename_i q
        rw [if_neg (by omega), Int.zero_add] at hF
        exact ⟨by omega, ih (i + 1) x (by omega) (by omega) hx (by omega) hF⟩
      · rename_i q
        rw [if_pos (by omega), ← Int.add_assoc] at hF
        exact ⟨by omega, by omega, by omega, ih (i + 1) _ (by omega) (by omega) (by omega) (by omega) hF⟩
  refine vw_X7_boughtAt ?_
  refine ⟨by omega, ?_⟩
  have K := key (S 19 o).toNat (6 * o) 0 (Nat.le_refl _) (by omega) (by omega) (by omega) (by rw [Int.zero_add]; exact h)
  rw [show ((6 * o : Nat) : Int) = (o : Int) * 6 by omega] at K
  exact K
end US
