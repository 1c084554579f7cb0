/-! SUMS OVER THE ACRES -/
noncomputable def sg_fo (S : mv_Mem) (f : Nat → Int → Int) (a : Int) : Nat → Int
  | 0 => a
  | n + 1 => sg_if (sg_ok S n) (f n (sg_fo S f a n)) (sg_fo S f a n)
/-- the acre of a place -/
def sg_in (S : mv_Mem) (p : Nat) : Nat := 8 * (p / (S 0 0).toNat) + p % (S 0 0).toNat
def sg_fp (S : mv_Mem) (f : Nat → Int → Int) (a : Int) : Nat → Int
  | 0 => a
  | n + 1 => f (sg_in S n) (sg_fp S f a n)
section SU
variable {S : mv_Mem} {f : Nat → Int → Int} {a : Int}
theorem sg_in_pl (hw : sg_wf S) {k : Nat} (hk : sg_ok S k) : sg_in S (sg_pl S k) = k := by
  obtain ⟨⟨⟨w1, w2⟩, ⟨h1, h2⟩, -⟩, -⟩ := hw
  obtain ⟨k1, k2⟩ := hk
  unfold sg_in sg_pl
  obtain ⟨w, ew⟩ := sg_nat (show 0 ≤ S 0 0 by omega)
  rw [ew] at w1 w2 k1
  rw [ew, Int.toNat_natCast]
  have hw0 : 0 < w := by omega
  rw [Nat.mul_comm (k / 8) w, Nat.mul_add_div hw0, Nat.mul_add_mod, Nat.div_eq_of_lt (show k % 8 < w by omega), Nat.mod_eq_of_lt (show k % 8 < w by omega)]
  omega
theorem sg_fo_s {n : Nat} (h : sg_ok S n) : sg_fo S f a (n + 1) = f n (sg_fo S f a n) := sg_if_y h
theorem sg_fo_n {n : Nat} (h : ¬ sg_ok S n) : sg_fo S f a (n + 1) = sg_fo S f a n := sg_if_n h
theorem sg_fo_no {n : Nat} : ∀ m, (∀ k, n ≤ k → k < n + m → ¬ sg_ok S k) → sg_fo S f a (n + m) = sg_fo S f a n
  | 0, _ => rfl
  | m + 1, h => (sg_fo_n (h (n + m) (by omega) (by omega))).trans (sg_fo_no m (fun k h1 h2 => h k h1 (by omega)))
theorem sg_fo_fp (hw : sg_wf S) {n : Nat} (hn : (n : Int) = S 0 0 * S 0 1) : sg_fo S f a 48 = sg_fp S f a n := by
  obtain ⟨⟨⟨w1, w2⟩, ⟨h1, h2⟩, -⟩, -⟩ := id hw
  obtain ⟨w, ew⟩ := sg_nat (show 0 ≤ S 0 0 by omega)
  obtain ⟨h, eh⟩ := sg_nat (show 0 ≤ S 0 1 by omega)
  have row : ∀ y, y < h → sg_fo S f a (8 * y) = sg_fp S f a (y * w) → ∀ x, x ≤ w → sg_fo S f a (8 * y + x) = sg_fp S f a (y * w + x) := by
    intro y hy h0 x
    induction x with
    | zero => intro _; exact h0
    | succ x ih =>
      intro hx
      have hok : sg_ok S (8 * y + x) := ⟨by omega, by omega⟩
      have hp : sg_pl S (8 * y + x) = y * w + x := by
        unfold sg_pl
        rw [ew, Int.toNat_natCast, show (8 * y + x) / 8 = y by omega, show (8 * y + x) % 8 = x by omega]
      have e1 : sg_fo S f a (8 * y + (x + 1)) = f (8 * y + x) (sg_fo S f a (8 * y + x)) := sg_fo_s hok
      have e2 : sg_fp S f a (y * w + (x + 1)) = f (sg_in S (y * w + x)) (sg_fp S f a (y * w + x)) := rfl
      rw [e1, e2, ih (by omega), ← hp, sg_in_pl hw hok, hp]
  have all : ∀ y, y ≤ h → sg_fo S f a (8 * y) = sg_fp S f a (y * w) := by
    intro y
    induction y with
    | zero => intro _; rw [Nat.zero_mul]; rfl
    | succ y ih =>
      intro hy
      have r := row y (by omega) (ih (by omega)) w (Nat.le_refl _)
      rw [show (y + 1) * w = y * w + w from Nat.succ_mul y w, ← r, show 8 * (y + 1) = (8 * y + w) + (8 - w) by omega]
      exact sg_fo_no (8 - w) (fun k k1 k2 hk => by
        obtain ⟨q1, q2⟩ := hk
        omega)
  have e := all h (Nat.le_refl _)
  have en : n = h * w := by
    rw [ew, eh, ← Int.natCast_mul] at hn
    rw [Nat.mul_comm]
    exact Int.ofNat.inj hn
  rw [en, ← e, show (48 : Nat) = 8 * h + (48 - 8 * h) by omega]
  exact sg_fo_no (48 - 8 * h) (fun k k1 k2 hk => by
    obtain ⟨q1, q2⟩ := hk
    omega)
theorem sg_fp_pl (hw : sg_wf S) {k : Nat} (hk : sg_ok S k) : sg_fp S f a (sg_pl S k + 1) = f k (sg_fp S f a (sg_pl S k)) := by
  have e : sg_fp S f a (sg_pl S k + 1) = f (sg_in S (sg_pl S k)) (sg_fp S f a (sg_pl S k)) := rfl
  rw [e, sg_in_pl hw hk]
theorem sg_in_ok (hw : sg_wf S) {p : Nat} (hp : (p : Int) < S 0 0 * S 0 1) : sg_ok S (sg_in S p) ∧ sg_pl S (sg_in S p) = p := by
  obtain ⟨k, hk, rfl⟩ := sg_pl_sur hw hp
  rw [sg_in_pl hw hk]
  exact ⟨hk, rfl⟩
/-- a sum of what lies between 0 and b -/
theorem sg_fp_b (hw : sg_wf S) {b : Int} (hb : 0 ≤ b) (hf : ∀ k x, sg_ok S k → x ≤ f k x ∧ f k x ≤ x + b) : ∀ n : Nat, (n : Int) ≤ S 0 0 * S 0 1 → a ≤ sg_fp S f a n ∧ sg_fp S f a n ≤ a + b * (n : Int) := by
  intro n
  induction n with
  | zero =>
    intro _
    have : sg_fp S f a 0 = a := rfl
    rw [this]
    omega
  | succ n ih =>
    intro hn
    have h1 := ih (by omega)
    have h2 := hf (sg_in S n) (sg_fp S f a n) (sg_in_ok hw (by omega)).1
    have e : sg_fp S f a (n + 1) = f (sg_in S n) (sg_fp S f a n) := rfl
    have e2 : b * ((n + 1 : Nat) : Int) = b * (n : Int) + b := by rw [Int.natCast_add, Int.mul_add]; omega
    rw [e, e2]
    omega
theorem sg_fo_c {g : Nat → Int → Int} (h : ∀ k x, sg_ok S k → f k x = g k x) : ∀ n, sg_fo S f a n = sg_fo S g a n
  | 0 => rfl
  | n + 1 => by
    by_cases q : sg_ok S n
    · rw [sg_fo_s q, sg_fo_s q, sg_fo_c h n, h n _ q]
    · rw [sg_fo_n q, sg_fo_n q, sg_fo_c h n]
end SU
/-! WHAT IS ASKED OF THE OFFERS -/
noncomputable def sg_all (S : mv_Mem) : Int := sg_fo S (fun k x => x + sg_rt S k) 0 48
noncomputable def sg_own (S : mv_Mem) (w : Int) : Int := sg_fo S (fun k x => if S 3 k = w then x + sg_rt S k else x) 0 48
noncomputable def sg_arr (S : mv_Mem) (o : Nat) : Int := sg_fo S (fun k x => if sg_tk S k = o then x + sg_yl S (o / 3) (S 1 k) else x) 0 48
noncomputable def sg_out (S : mv_Mem) (u : Int) : Int := sg_fo S (fun k x => if sg_tk S k ≠ -1 ∧ sg_tk S k / 3 = u then (if x < sg_wo S (sg_tk S k).toNat k then sg_wo S (sg_tk S k).toNat k else x) else x) (-9) 48
noncomputable def sg_bd (S : mv_Mem) (k d : Nat) : Int := sg_if (sg_has S k d ∧ sg_tk S k ≠ -1 ∧ sg_tk S (sg_nx k d) ≠ -1 ∧ sg_tk S k % 3 ≠ sg_tk S (sg_nx k d) % 3) 1 0
noncomputable def sg_bds (S : mv_Mem) : Int := sg_fo S (fun k x => x + sg_bd S k 0 + sg_bd S k 2) 0 48
noncomputable def sg_was (S : mv_Mem) : Int := sg_fo S (fun k x => if sg_tk S k = -1 then x + 1 else x) 0 48
noncomputable def sg_fal (S : mv_Mem) (u : Int) (S' : mv_Mem) : Int := sg_fo S (fun k x => if (sg_tk S k ≠ -1 ∧ sg_tk S k / 3 = u) ∧ sg_tk S' k = -1 then x + 1 else x) 0 48
section OF
variable {S : mv_Mem} {G : mv_G} {l : Nat} {M : mv_Mem} {F : Int → mv_Mem → Prop}
theorem sg_tk_i (hw : sg_wf S) (k : Nat) : (sg_tk S k = -1 ∧ sg_mx S k = 0) ∨ ∃ o : Nat, o < 18 ∧ (o : Int) < 3 * S 0 3 ∧ ((o % 3 : Nat) : Int) < S 0 2 ∧ sg_tk S k = (o : Int) ∧ sg_mx S k = sg_bid S o k ∧ 0 < sg_bid S o k := by
  have hu := sg_nu hw
  unfold sg_tk sg_mx
  split
  · rcases sg_g_i S (-1) k (3 * (S 0 3).toNat) with h | ⟨o, h1, h2, h3, h4, h5⟩
    · rw [h]
      exact Or.inl ⟨rfl, rfl⟩
    · rw [h4]
      exact Or.inr ⟨o, by omega, by omega, h2, rfl, rfl, h5⟩
  · exact Or.inl ⟨rfl, rfl⟩
theorem sg_mx_b (hw : sg_wf S) {k : Nat} (hk : sg_ok S k) : 0 ≤ sg_mx S k ∧ sg_mx S k ≤ 160000000 := by
  rcases sg_tk_i hw k with h | ⟨o, h1, h2, h3, h4, h5, h6⟩
  · omega
  · have := sg_bid_b hw h1 h3 hk
    omega
theorem sg_rt_b (hw : sg_wf S) {k : Nat} (hk : sg_ok S k) : 0 ≤ sg_rt S k ∧ sg_rt S k ≤ 160000000 ∧ 0 ≤ sg_mx S k * S 0 4 ∧ sg_mx S k * S 0 4 ≤ 16000000000 ∧ (sg_mx S k * S 0 4).tdiv 100 = sg_mx S k * S 0 4 / 100 := by
  have h1 := sg_mx_b hw hk
  have h2 := hw.1.2.2.2.2.1
  have h3 : 0 ≤ sg_mx S k * S 0 4 := Int.mul_nonneg h1.1 h2.1
  have h4 : sg_mx S k * S 0 4 ≤ sg_mx S k * 100 := Int.mul_le_mul_of_nonneg_left h2.2 h1.1
  have h5 : (sg_mx S k * S 0 4).tdiv 100 = sg_mx S k * S 0 4 / 100 := sg_td h3
  unfold sg_rt
  rw [h5]
  refine ⟨?_, ?_, h3, ?_, rfl⟩ <;> omega
theorem cl_rentBy (hw : sg_wf S) (hC : sg_C 0 S M) (hB : sg_Bd S M) {k : Nat} (hk : sg_ok S k) {F : Int → mv_Mem → Prop} (h : F (sg_rt S k) M) : mv_Wp G 21 [.inr (.inr 6), .inl (sg_tk S k), .inl (sg_pl S k : Int)] (mh l) M (mv_ql (mh l) F) := by
  refine vw_X1_rentBy ?_
  have hp := (sg_pl_lt hw hk).2
  have c1 : M 17 1 = S 0 4 := hC.2.2.2.2.1.2
  obtain ⟨r1, r2, r3, r4, r5⟩ := sg_rt_b hw hk
  rcases sg_tk_i hw k with ⟨e, e2⟩ | ⟨o, h1, h2, h3, h4, h5, h6⟩
  · rw [if_pos e]
    unfold sg_rt at h
    rw [e2, Int.zero_mul] at h
    exact mv_ql_i h
  · have hb := hB o k h2 h3 hk
    have hbb := sg_mx_b hw hk
    rw [if_neg (by omega), h4, show Int.toNat ((o : Int) * 48 + (sg_pl S k : Int)) = 48 * o + sg_pl S k by omega, hb, ← h5, c1, r5]
    unfold sg_rt at h r1 r2
    rw [r5] at h r1 r2
    exact ⟨by omega, by omega, by omega, by omega, ⟨by decide, by omega⟩, by omega, mv_ql_i h⟩
theorem cl_rentAt (hw : sg_wf S) (hC : sg_C 0 S M) (hB : sg_Bd S M) (hT : sg_Tk S M) {k : Nat} (hk : sg_ok S k) {F : Int → mv_Mem → Prop} (h : F (sg_rt S k) M) : mv_Wp G 20 [.inr (.inr 6), .inl (sg_pl S k : Int)] (mh l) M (mv_ql (mh l) F) := by
  refine vw_X1_rentAt ?_
  have hp := (sg_pl_lt hw hk).2
  rw [Int.toNat_natCast, hT k hk]
  exact ⟨by omega, cl_rentBy hw hC hB hk (mv_ql_i h)⟩
theorem cl_allRents (hw : sg_wf S) (hC : sg_C 0 S M) (hB : sg_Bd S M) (hT : sg_Tk S M) (h : F (sg_all S) M) : mv_Wp G 22 [.inr (.inr 6)] (mh l) M (mv_ql (mh l) F) := by
  obtain ⟨n48, hn1, hn2⟩ := sg_n48 hw
  have c2 : M 8 2 = (n48 : Int) := hC.1.2.2.1.trans hn1.symm
  have hb := fun n hn => sg_fp_b (f := fun k x => x + sg_rt S k) (a := 0) hw (b := 160000000) (by omega) (fun k x hk => by have := sg_rt_b hw hk; omega) n hn
  have key : ∀ (n p : Nat), p + n = n48 → mv_Run G 22 87 4749 4 [(0, .inr (.inr 6)), (1, .inr (.inl (sg_fp S (fun k x => x + sg_rt S k) 0 p))), (3, .inl (p : Int))] [] (mh l) M (mv_ql (mh l) F) := by
    intro n
    induction n with
    | zero =>
      intro p hp
      refine vr_X1_allRents_4 ?_
      rw [c2, if_pos (by omega), show p = n48 by omega, ← sg_fo_fp hw hn1]
      exact mv_ql_i h
    | succ n ih =>
      intro p hp
      refine vr_X1_allRents_4 ?_
      obtain ⟨k, hk, rfl⟩ := sg_pl_sur hw (p := p) (by omega)
      have h1 := hb (sg_pl S k) (by omega)
      have h2 := sg_rt_b hw hk
      have e := sg_fp_pl (f := fun k x => x + sg_rt S k) (a := 0) hw hk
      have K := ih (sg_pl S k + 1) (by omega)
      rw [e] at K
      rw [c2, if_neg (by omega)]
      exact cl_rentAt hw hC hB hT hk ⟨by omega, by omega, K⟩
  refine vw_X1_allRents ?_
  exact key n48 0 (by omega)
theorem cl_rentsOf (hw : sg_wf S) (hC : sg_C 0 S M) (hB : sg_Bd S M) {w : Int} (h : F (sg_own S w) M) : mv_Wp G 23 [.inr (.inr 6), .inl w] (mh l) M (mv_ql (mh l) F) := by
  obtain ⟨n48, hn1, hn2⟩ := sg_n48 hw
  have c2 : M 8 2 = (n48 : Int) := hC.1.2.2.1.trans hn1.symm
  have hb := fun n hn => sg_fp_b (f := fun k x => if S 3 k = w then x + sg_rt S k else x) (a := 0) hw (b := 160000000) (by omega) (fun k x hk => by have := sg_rt_b hw hk; split <;> omega) n hn
  have key : ∀ (n p : Nat), p + n = n48 → mv_Run G 23 87 4749 5 [(0, .inr (.inr 6)), (1, .inl w), (2, .inr (.inl (sg_fp S (fun k x => if S 3 k = w then x + sg_rt S k else x) 0 p))), (4, .inl (p : Int))] [] (mh l) M (mv_ql (mh l) F) := by
    intro n
    induction n with
    | zero =>
      intro p hp
      refine vr_X1_rentsOf_5 ?_
      rw [c2, if_pos (by omega), show p = n48 by omega, ← sg_fo_fp hw hn1]
      exact mv_ql_i h
    | succ n ih =>
      intro p hp
      refine vr_X1_rentsOf_5 ?_
      obtain ⟨k, hk, rfl⟩ := sg_pl_sur hw (p := p) (by omega)
      have h1 := hb (sg_pl S k) (by omega)
      have h2 := sg_rt_b hw hk
      have e := sg_fp_pl (f := fun k x => if S 3 k = w then x + sg_rt S k else x) (a := 0) hw hk
      have c3 : M 12 (sg_pl S k) = S 3 k := (hC.2.1 k hk).2.2.2.1
      have K := ih (sg_pl S k + 1) (by omega)
      rw [e] at K
      rw [c2, if_neg (by omega), Int.toNat_natCast, c3]
      refine ⟨by omega, ?_⟩
      split
      · rename_i q
        rw [if_pos q] at K
        exact cl_takerOf hw hC hB hk (cl_rentBy hw hC hB hk ⟨by omega, by omega, K⟩)
      · rename_i q
        rw [if_neg q] at K
        exact ⟨by omega, K⟩
  refine vw_X1_rentsOf ?_
  exact key n48 0 (by omega)
theorem cl_isTakenBy (hw : sg_wf S) (hT : sg_Tk S M) {k : Nat} {u : Int} (hk : sg_ok S k) (h1 : sg_tk S k ≠ -1 ∧ sg_tk S k / 3 = u → F 1 M) (h0 : ¬ (sg_tk S k ≠ -1 ∧ sg_tk S k / 3 = u) → F 0 M) : mv_Wp G 25 [.inr (.inr 6), .inl u, .inl (sg_pl S k : Int)] (mh l) M (mv_qi (mh l) F) := by
  refine vw_X1_isTakenBy ?_
  have hp := (sg_pl_lt hw hk).2
  rw [Int.toNat_natCast, hT k hk]
  refine ⟨by omega, ?_⟩
  split
  · rename_i q
    exact ⟨by decide, mv_qi_i (h0 (fun z => z.1 q))⟩
  · rename_i q
    have h3 : 0 ≤ sg_tk S k ∧ sg_tk S k < 18 := by
      rcases sg_tk_i hw k with z | ⟨o, z1, z2, z3, z4, z5⟩
      · exact absurd z.1 q
      · omega
    rw [sg_td h3.1]
    refine ⟨by omega, ⟨by decide, by omega⟩, ?_⟩
    split
    · rename_i q2
      exact ⟨by decide, mv_qi_i (h1 ⟨q, q2⟩)⟩
    · rename_i q2
      exact ⟨by decide, mv_qi_i (h0 (fun z => q2 z.2))⟩
theorem cl_wasteAcres (hw : sg_wf S) (hC : sg_C 0 S M) (hT : sg_Tk S M) (h : F (sg_was S) M) : mv_Wp G 29 [.inr (.inr 6)] (mh l) M (mv_qi (mh l) F) := by
  obtain ⟨n48, hn1, hn2⟩ := sg_n48 hw
  have c2 : M 8 2 = (n48 : Int) := hC.1.2.2.1.trans hn1.symm
  have hb := fun n hn => sg_fp_b (f := fun k x => if sg_tk S k = -1 then x + 1 else x) (a := 0) hw (b := 1) (by omega) (fun k x hk => by split <;> omega) n hn
  have key : ∀ (n p : Nat), p + n = n48 → mv_Run G 29 87 4749 4 [(0, .inr (.inr 6)), (1, .inl (sg_fp S (fun k x => if sg_tk S k = -1 then x + 1 else x) 0 p)), (2, .inl (p : Int))] [] (mh l) M (mv_qi (mh l) F) := by
    intro n
    induction n with
    | zero =>
      intro p hp
      refine vr_X1_wasteAcres_4 ?_
      rw [c2, if_pos (by omega), show p = n48 by omega, ← sg_fo_fp hw hn1]
      exact mv_qi_i h
    | succ n ih =>
      intro p hp
      refine vr_X1_wasteAcres_4 ?_
      obtain ⟨k, hk, rfl⟩ := sg_pl_sur hw (p := p) (by omega)
      have h1 := hb (sg_pl S k) (by omega)
      have e := sg_fp_pl (f := fun k x => if sg_tk S k = -1 then x + 1 else x) (a := 0) hw hk
      have K := ih (sg_pl S k + 1) (by omega)
      rw [e] at K
      rw [c2, if_neg (by omega), Int.toNat_natCast, hT k hk]
      refine ⟨by omega, ?_⟩
      split
      · rename_i q
        rw [if_pos q] at K
        exact ⟨by omega, by omega, K⟩
      · rename_i q
        rw [if_neg q] at K
        rw [Int.add_zero]
        exact ⟨by omega, by omega, K⟩
  refine vw_X1_wasteAcres ?_
  exact key n48 0 (by omega)
theorem sg_bd_01 (S : mv_Mem) (k d : Nat) : sg_bd S k d = 0 ∨ sg_bd S k d = 1 := by
  unfold sg_bd
  by_cases q : sg_has S k d ∧ sg_tk S k ≠ -1 ∧ sg_tk S (sg_nx k d) ≠ -1 ∧ sg_tk S k % 3 ≠ sg_tk S (sg_nx k d) % 3
  · exact Or.inr (sg_if_y q)
  · exact Or.inl (sg_if_n q)
end OF
