/-! THE CLASS: THE BEST SET OF PLANS, THE ROW, THE TAPE -/
def sg_du (S : mv_Mem) (f : Nat → Int) (k : Nat) : Int := if f k = -1 then -1 else f k / 3
/-- the acre at which a row (r, of len) is wrong, from the place p on, n places -/
noncomputable def sg_jf (S : mv_Mem) (len : Int) (r : Nat → Int) : Nat → Nat → Int
  | 0, _ => if S 0 0 * S 0 1 < len then 99 else -9
  | n + 1, p => if len ≤ (p : Int) ∨ r p ≠ sg_du S (sg_tk S) (sg_in S p) then ((10 * (sg_in S p % 8) + sg_in S p / 8 : Nat) : Int) else sg_jf S len r n (p + 1)
noncomputable def sg_jd (S : mv_Mem) (len : Int) (r : Nat → Int) : Int := sg_jf S len r (S 0 0 * S 0 1).toNat 0
/-- the byte k of a long -/
def sg_by (b : Int) (k : Nat) : Int := b / 256 ^ k % 256
/-- what a text says: a fault's place (-1), width, height -/
def sg_pr (t : Nat → Int) (n : Nat) : Nat → Nat → Int → Int → Int → Int × Int × Int
  | 0, _, w, line, col => if col = 0 ∨ (0 < line ∧ col < w) then ((n : Int), 0, 0) else (-1, (if line = 0 then col else w), line + 1)
  | f + 1, i, w, line, col => if t i = 47 then (if col = 0 ∨ (0 < line ∧ col < w) ∨ line + 1 = 6 then ((i : Int), 0, 0) else sg_pr t n f (i + 1) col (line + 1) 0)
    else if (48 ≤ t i ∧ t i ≤ 57) ∧ col ≠ w then sg_pr t n f (i + 1) w line (col + 1) else ((i : Int), 0, 0)
def sg_prs (t : Nat → Int) (n : Nat) : Int × Int × Int := sg_pr t n n 0 8 0 0
section RW
variable {S : mv_Mem} {G : mv_G} {l : Nat} {M : mv_Mem} {F : Int → mv_Mem → Prop}
/-! the row -/
/-! the tape -/
theorem sg_land255 {x : Int} (hx : mv_R64 x) : mv_land x 255 = x % 256 := by
  have e1 : (Int64.ofInt x).toBitVec = BitVec.ofInt 64 x := rfl
  show ((Int64.ofInt x &&& Int64.ofInt 255).toBitVec).toInt = x % 256
  rw [Int64.toBitVec_and, e1]
  have e2 : (Int64.ofInt 255).toBitVec = 255#64 := rfl
  rw [e2]
  have h1 : (BitVec.ofInt 64 x &&& 255#64).toNat = (x % 256).toNat := by
    rw [BitVec.toNat_and, BitVec.toNat_ofInt]
    have : (255#64).toNat = 2 ^ 8 - 1 := rfl
    rw [this, Nat.and_two_pow_sub_one_eq_mod]
    have h2 : (2 : Int) ^ 64 = 18446744073709551616 := by decide
    omega
  rw [BitVec.toInt_eq_toNat_of_lt (by rw [h1]; omega), h1]
  omega
theorem sg_lushr8 {x : Int} (hx : mv_R64 x) : mv_lushr x 8 = x % 18446744073709551616 / 256 := by
  have e1 : (Int64.ofInt x).toBitVec = BitVec.ofInt 64 x := rfl
  show (BitVec.ofInt 64 x >>> (8 : Nat)).toInt = _
  have h1 : (BitVec.ofInt 64 x >>> (8 : Nat)).toNat = (x % 18446744073709551616 / 256).toNat := by
    rw [BitVec.toNat_ushiftRight, BitVec.toNat_ofInt, Nat.shiftRight_eq_div_pow]
    have h2 : (2 : Int) ^ 64 = 18446744073709551616 := by decide
    omega
  rw [BitVec.toInt_eq_toNat_of_lt (by rw [h1]; omega), h1]
  omega
/-- what the tape's long is after k bytes -/
def sg_ls (b : Int) (k : Nat) : Int := if k = 0 then b else b % 18446744073709551616 / 256 ^ k
theorem sg_p256 : ∀ k : Nat, 0 < (256 : Int) ^ k
  | 0 => by decide
  | k + 1 => by
    rw [Int.pow_succ]
    have := sg_p256 k
    omega
theorem sg_ls_r {b : Int} (hb : mv_R64 b) (k : Nat) : mv_R64 (sg_ls b k) ∧ (0 < k → sg_ls b k < 18446744073709551616 / 256 ∧ 0 ≤ sg_ls b k) := by
  unfold sg_ls
  split
  · rename_i q
    exact ⟨hb, fun z => by omega⟩
  · rename_i q
    obtain ⟨j, hj⟩ : ∃ j, k = j + 1 := ⟨k - 1, by omega⟩
    subst hj
    have h1 : b % 18446744073709551616 / 256 ^ (j + 1) = b % 18446744073709551616 / 256 / 256 ^ j := by
      rw [Int.pow_succ, Int.mul_comm, Int.ediv_ediv_of_nonneg (by decide)]
    rw [h1]
    have h2 : 0 ≤ b % 18446744073709551616 / 256 := by omega
    have h3 : b % 18446744073709551616 / 256 < 72057594037927936 := by omega
    have h4 : b % 18446744073709551616 / 256 / 256 ^ j ≤ b % 18446744073709551616 / 256 := Int.ediv_le_self _ h2
    have h5 : 0 ≤ b % 18446744073709551616 / 256 / 256 ^ j := Int.ediv_nonneg h2 (Int.le_of_lt (sg_p256 j))
    refine ⟨by omega, fun _ => by omega⟩
theorem sg_ls_s {b : Int} (hb : mv_R64 b) (k : Nat) : mv_lushr (sg_ls b k) 8 = sg_ls b (k + 1) := by
  have h := sg_ls_r hb k
  rw [sg_lushr8 h.1]
  by_cases q : k = 0
  · subst q
    unfold sg_ls
    rw [if_pos rfl, if_neg (by omega)]
    rfl
  · have h1 := h.2 (by omega)
    have e : sg_ls b (k + 1) = sg_ls b k / 256 := by
      unfold sg_ls
      rw [if_neg (by omega), if_neg q, Int.pow_succ, Int.ediv_ediv_of_nonneg (Int.le_of_lt (sg_p256 k))]
    rw [e, Int.emod_eq_of_lt h1.2 (by omega)]
theorem sg_ls_b {b : Int} (hb : mv_R64 b) {k : Nat} (hk : k < 8) : mv_land (sg_ls b k) 255 = sg_by b k := by
  rw [sg_land255 (sg_ls_r hb k).1]
  unfold sg_ls sg_by
  rcases (show k = 0 ∨ k = 1 ∨ k = 2 ∨ k = 3 ∨ k = 4 ∨ k = 5 ∨ k = 6 ∨ k = 7 by omega) with rfl | rfl | rfl | rfl | rfl | rfl | rfl | rfl
  · rw [if_pos rfl, show (256 : Int) ^ 0 = 1 by decide]
    omega
  all_goals rw [if_neg (by decide)]
  · rw [show (256 : Int) ^ 1 = 256 by decide]; omega
  · rw [show (256 : Int) ^ 2 = 65536 by decide]; omega
  · rw [show (256 : Int) ^ 3 = 16777216 by decide]; omega
  · rw [show (256 : Int) ^ 4 = 4294967296 by decide]; omega
  · rw [show (256 : Int) ^ 5 = 1099511627776 by decide]; omega
  · rw [show (256 : Int) ^ 6 = 281474976710656 by decide]; omega
  · rw [show (256 : Int) ^ 7 = 72057594037927936 by decide]; omega
theorem cl_tapeAppend {M0 : mv_Mem} {F : mv_Mem → Prop} {n len : Nat} {b : Int} (hb : mv_R64 b) (hn : n ≤ 8) (hl : M0 2 1 = (len : Int)) (hl2 : len + n ≤ 60)
    (h : ∀ M, (∀ a i, a ≠ 2 → a ≠ 3 → M a i = M0 a i) → (∀ i, i < len → M 3 i = M0 3 i) → (∀ i, i < n → M 3 (len + i) = sg_by b i) → M 2 1 = ((len + n : Nat) : Int) → F M) :
    mv_Wp G 46 [.inr (.inr 2), .inl (n : Int), .inr (.inl b)] (mh l) M0 (mv_qv (mh l) F) := by
  have key : ∀ (m k : Nat) (M : mv_Mem), k + m = n → (∀ a i, a ≠ 2 → a ≠ 3 → M a i = M0 a i) → (∀ i, i < len → M 3 i = M0 3 i) → (∀ i, i < k → M 3 (len + i) = sg_by b i) → M 2 1 = ((len + k : Nat) : Int) →
      mv_Run G 46 87 4749 6 [(0, .inr (.inr 2)), (1, .inl (n : Int)), (4, .inr (.inl (sg_ls b k))), (6, .inl (k : Int))] [] (mh l) M (mv_qv (mh l) F) := by
    intro m
    induction m with
    | zero =>
      intro k M hk hfr h1 h2 h3
      refine vr_X5_append_6 ?_
      rw [if_pos (by omega)]
      have e : k = n := by omega
      subst e
      exact mv_qv_i (h M hfr h1 h2 h3)
    | succ m ih =>
      intro k M hk hfr h1 h2 h3
      refine vr_X5_append_6 ?_
      have e : ∀ v, (mv_up M 3 (len + k) v) 2 1 = ((len + k : Nat) : Int) := fun v => by
        rw [mv_up_n (fun z => by omega)]
        exact h3
      rw [if_neg (by omega), h3, if_neg (by omega), Int.toNat_natCast, e, sg_ls_b hb (by omega), sg_ls_s hb]
      have hby : 0 ≤ sg_by b k ∧ sg_by b k < 256 := by
        unfold sg_by
        omega
      refine ⟨by omega, by omega, by omega, by omega, ih (k + 1) _ (by omega) (fun a i a1 a2 => by rw [mv_up_n (fun z => a1 z.1), mv_up_n (fun z => a2 z.1)]; exact hfr a i a1 a2) (fun i hi => by rw [mv_up_n (fun z => by omega), mv_up_n (fun z => by omega)]; exact h1 i hi) (fun i hi => ?_) (by rw [mv_up_s]; omega)⟩
      rw [mv_up_n (fun z => by omega)]
      by_cases q : i = k
      · rw [q, mv_up_s]
      · rw [mv_up_n (fun z => by omega)]
        exact h2 i (by omega)
  refine vw_X5_append ?_
  exact key n 0 M0 (by omega) (fun _ _ _ _ => rfl) (fun _ _ => rfl) (fun i hi => by omega) (by rw [hl]; rfl)
theorem cl_isDigit {x : Int} (h1 : 48 ≤ x ∧ x ≤ 57 → F 1 M) (h0 : ¬ (48 ≤ x ∧ x ≤ 57) → F 0 M) : mv_Wp G 48 [.inl x] (mh l) M (mv_qi (mh l) F) := by
  refine vw_X5_isDigit ?_
  split
  · exact ⟨by decide, mv_qi_i (h0 (by omega))⟩
  · split
    · exact ⟨by decide, mv_qi_i (h0 (by omega))⟩
    · exact ⟨by decide, mv_qi_i (h1 (by omega))⟩
theorem cl_firstFault {n : Nat} (hl : M 2 1 = (n : Int)) (hn : n ≤ 60) (h : F (sg_prs (M 3) n).1 M) : mv_Wp G 47 [.inr (.inr 2)] (mh l) M (mv_qi (mh l) F) := by
  have key : ∀ (f i : Nat) (w line col : Int), i + f = n → 0 ≤ w → w ≤ 8 → 0 ≤ line → line ≤ 5 → 0 ≤ col → col ≤ w → F (sg_pr (M 3) n f i w line col).1 M →
      mv_Run G 47 87 4749 10 [(0, .inr (.inr 2)), (1, .inl w), (2, .inl line), (3, .inl col), (4, .inl (i : Int))] [] (mh l) M (mv_qi (mh l) F) := by
    intro f
    induction f with
    | zero =>
      intro i w line col hi hw0 hw hl0 hl5 hc hcw hF
      refine vr_X5_firstFault_10 ?_
      unfold sg_pr at hF
      rw [hl, if_pos (by omega)]
      split
      · rw [if_pos (by omega)] at hF
        exact mv_qi_i hF
      · split
        · rw [if_neg (by omega)] at hF
          exact mv_qi_i hF
        · split
          · rw [if_neg (by omega)] at hF
            exact mv_qi_i hF
          · rw [if_pos (by omega)] at hF
            exact mv_qi_i hF
    | succ f ih =>
      intro i w line col hi hw0 hw hl0 hl5 hc hcw hF
      refine vr_X5_firstFault_10 ?_
      unfold sg_pr at hF
      rw [hl, if_neg (by omega), Int.toNat_natCast]
      refine ⟨by omega, ?_⟩
      split
      · rename_i q
        rw [if_pos q] at hF
        split
        · rw [if_pos (by omega)] at hF
          exact mv_qi_i hF
        · split
          · refine ⟨by omega, ?_⟩
            split
            · rw [if_pos (by omega)] at hF
              exact mv_qi_i hF
            · rw [if_neg (by omega)] at hF
              exact ⟨by omega, by omega, ih (i + 1) col (line + 1) 0 (by omega) (by omega) (by omega) (by omega) (by omega) (by omega) (by omega) hF⟩
          · split
            · rw [if_pos (by omega)] at hF
              exact mv_qi_i hF
            · refine ⟨by omega, ?_⟩
              split
              · rw [if_pos (by omega)] at hF
                exact mv_qi_i hF
              · rw [if_neg (by omega)] at hF
                exact ⟨by omega, by omega, ih (i + 1) col (line + 1) 0 (by omega) (by omega) (by omega) (by omega) (by omega) (by omega) (by omega) hF⟩
      · rename_i q
        rw [if_neg q] at hF
        refine ⟨by omega, cl_isDigit (fun q2 => ?_) (fun q2 => ?_)⟩
        · rw [if_neg (by decide)]
          split
          · rename_i q3
            rw [if_neg (fun z => z.2 q3)] at hF
            exact mv_qi_i hF
          · rename_i q3
            rw [if_pos ⟨q2, q3⟩] at hF
            exact ⟨by omega, by omega, ih (i + 1) w line (col + 1) (by omega) (by omega) (by omega) (by omega) (by omega) (by omega) (by omega) hF⟩
        · rw [if_neg (fun z => q2 z.1)] at hF
          rw [if_pos rfl]
          exact mv_qi_i hF
  refine vw_X5_firstFault ?_
  exact key n 0 8 0 0 (by omega) (by omega) (by omega) (by omega) (by omega) (by omega) (by omega) h
end RW
