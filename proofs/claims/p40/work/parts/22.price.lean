/-! THE CLASS's CLEARING PRICES -/
/-- an acre goes to an offer, the others as they are -/
def sg_go (S : mv_Mem) (o k : Nat) : Prop := S 4 k = 0 ∧ 0 < sg_bid S o k ∧ ((sg_g S o k (3 * (S 0 3).toNat)).2 < sg_bid S o k ∨ (sg_bid S o k = (sg_g S o k (3 * (S 0 3).toNat)).2 ∧ (o : Int) < (sg_g S o k (3 * (S 0 3).toNat)).1))
noncomputable def sg_cm (S : mv_Mem) (o : Nat) : Int := sg_fo S (fun k x => sg_if (sg_go S o k) (x + sg_yl S (o / 3) (S 1 k)) x) 0 48
/-- the first of the first n for which P holds; -9 -/
noncomputable def sg_cf (P : Nat → Prop) : Nat → Int
  | 0 => -9
  | n + 1 => sg_if (sg_cf P n = -9 ∧ P n) (n : Int) (sg_cf P n)
noncomputable def sg_clr (S : mv_Mem) (o : Nat) : Int := sg_cf (fun v => sg_bo S o (v : Int) ≤ sg_cm (mv_up S 16 o (v : Int)) o) 1000
theorem sg_cf_i (P : Nat → Prop) : ∀ n, (sg_cf P n = -9 ∧ ∀ w, w < n → ¬ P w) ∨ ∃ v : Nat, v < n ∧ sg_cf P n = (v : Int) ∧ P v ∧ ∀ w, w < v → ¬ P w := by
  intro n
  induction n with
  | zero => exact Or.inl ⟨rfl, fun w hw => by omega⟩
  | succ n ih =>
    by_cases q : sg_cf P n = -9 ∧ P n
    · have e : sg_cf P (n + 1) = (n : Int) := sg_if_y q
      refine Or.inr ⟨n, by omega, e, q.2, fun w hw => ?_⟩
      rcases ih with h | ⟨v, h1, h2, h3⟩
      · exact h.2 w hw
      · omega
    · have e : sg_cf P (n + 1) = sg_cf P n := sg_if_n q
      rw [e]
      rcases ih with h | ⟨v, h1, h2, h3⟩
      · refine Or.inl ⟨h.1, fun w hw => ?_⟩
        by_cases z : w = n
        · rw [z]
          exact fun y => q ⟨h.1, y⟩
        · exact h.2 w (by omega)
      · exact Or.inr ⟨v, by omega, h2, h3⟩
theorem sg_cf_y {P : Nat → Prop} {n v : Nat} (h1 : v < n) (h2 : P v) (h3 : ∀ w, w < v → ¬ P w) : sg_cf P n = (v : Int) := by
  rcases sg_cf_i P n with h | ⟨w, q1, q2, q3, q4⟩
  · exact absurd h2 (h.2 v h1)
  · rw [q2]
    rcases Nat.lt_trichotomy v w with z | z | z
    · exact absurd h2 (q4 v z)
    · rw [z]
    · exact absurd q3 (h3 w z)
theorem sg_cf_n {P : Nat → Prop} {n : Nat} (h3 : ∀ w, w < n → ¬ P w) : sg_cf P n = -9 := by
  rcases sg_cf_i P n with h | ⟨w, q1, q2, q3, q4⟩
  · exact h.1
  · exact absurd q3 (h3 w q1)
theorem sg_lxor {a b : Int} (ha : mv_R64 a) (hb : 0 < b ∧ b ≤ 9223372036854775807) : 0 ≤ mv_lxor a b ↔ 0 ≤ a := by
  have m : ∀ x : BitVec 64, 0 ≤ x.toInt ↔ x.msb = false := fun x => by
    rw [BitVec.msb_eq_toInt, decide_eq_false_iff_not]
    omega
  have e1 : (Int64.ofInt a).toBitVec.toInt = a := Int64.toInt_ofInt_of_le ha.1 (by have := ha.2; omega)
  have e2 : (Int64.ofInt b).toBitVec.toInt = b := Int64.toInt_ofInt_of_le (by omega) (by omega)
  show 0 ≤ ((Int64.ofInt a) ^^^ (Int64.ofInt b)).toBitVec.toInt ↔ _
  rw [Int64.toBitVec_xor, m, BitVec.msb_xor]
  have h2 : (Int64.ofInt b).toBitVec.msb = false := (m _).1 (by rw [e2]; omega)
  rw [h2, Bool.xor_false, ← m, e1]
theorem sg_fdiv {a b : Int} (hb : 0 < b) : (0 ≤ a → a.tdiv b = a / b) ∧ (a < 0 → a.tdiv b * b = a → a.tdiv b = a / b) ∧ (a < 0 → a.tdiv b * b ≠ a → a.tdiv b - 1 = a / b) := by
  refine ⟨fun h => sg_td h, fun h q => ?_, fun h q => ?_⟩
  · conv => rhs; rw [← q]
    exact (Int.mul_ediv_cancel _ (by omega)).symm
  · have h1 := Int.mul_tdiv_add_tmod a b
    have h2 : a.tmod b ≤ 0 := by
      have := Int.tmod_nonneg (a := -a) b (by omega)
      rw [Int.neg_tmod] at this
      omega
    have h3 : -b < a.tmod b := by
      have := Int.tmod_lt_of_pos (-a) hb
      rw [Int.neg_tmod] at this
      omega
    have h4 : a.tmod b ≠ 0 := fun z => q (by rw [Int.mul_comm]; omega)
    have h5 : a = b * (a.tdiv b - 1) + (a.tmod b + b) := by rw [Int.mul_sub]; omega
    conv => rhs; rw [h5]
    rw [Int.mul_add_ediv_left _ _ (by omega), Int.ediv_eq_zero_of_lt (by omega) (by omega)]
    omega
section PR
variable {S : mv_Mem} {G : mv_G} {l : Nat} {M : mv_Mem} {F : Int → mv_Mem → Prop}
theorem cl_floorDiv {a b : Int} (ha : -4000000000000 ≤ a ∧ a ≤ 4000000000000) (hb : 0 < b ∧ b ≤ 4000000000000) (h : F (a / b) M) : mv_Wp G 222 [.inr (.inl a), .inr (.inl b)] (mh l) M (mv_ql (mh l) F) := by
  refine vw_J9_floorDiv_f86c9 ?_
  obtain ⟨f1, f2, f3⟩ := sg_fdiv (a := a) hb.1
  have hd : (a.tdiv b).natAbs ≤ a.natAbs := by
    rw [Int.natAbs_tdiv]
    exact Nat.div_le_self _ _
  have hm := Int.mul_tdiv_add_tmod a b
  have hm2 := Int.tmod_lt_of_pos a hb.1
  have hm3 : -b < a.tmod b := by
    have := Int.tmod_lt_of_pos (-a) hb.1
    rw [Int.neg_tmod] at this
    omega
  have hc : a.tdiv b * b = b * a.tdiv b := Int.mul_comm _ _
  simp only [mv_cmp_ge, mv_cmp_eq]
  refine ⟨⟨by omega, by omega⟩, ?_⟩
  have hx := sg_lxor (a := a) (b := b) (by omega) (by omega)
  split
  · rename_i q
    rw [f1 (hx.1 q)]
    exact mv_ql_i h
  · rename_i q
    have hneg : a < 0 := by
      have := fun z => q (hx.2 z)
      omega
    refine ⟨by omega, ?_⟩
    split
    · rename_i q2
      rw [f2 hneg q2]
      exact mv_ql_i h
    · rename_i q2
      rw [f3 hneg q2]
      refine ⟨?_, mv_ql_i h⟩
      have := f3 hneg q2
      omega
theorem cl_minl {x y : Int} (h : F (if y < x then y else x) M) : mv_Wp G 225 [.inr (.inl x), .inr (.inl y)] (mh l) M (mv_ql (mh l) F) := by
  refine vw_J9_min_f86c9 ?_
  simp only [mv_cmp_gt]
  split
  · rename_i q
    rw [if_pos q] at h
    exact mv_ql_i h
  · rename_i q
    rw [if_neg q] at h
    exact mv_ql_i h
theorem cl_maxl {x y : Int} (h : F (if x < y then y else x) M) : mv_Wp G 224 [.inr (.inl x), .inr (.inl y)] (mh l) M (mv_ql (mh l) F) := by
  refine vw_J9_max_f86c9 ?_
  simp only [mv_cmp_lt]
  split
  · rename_i q
    rw [if_pos q] at h
    exact mv_ql_i h
  · rename_i q
    rw [if_neg q] at h
    exact mv_ql_i h
/-! another price -/
theorem sg_ys_u {c i u : Nat} {v : Int} (h : c ≠ 14) : ∀ n, sg_ys (mv_up S c i v) u n = sg_ys S u n
  | 0 => rfl
  | n + 1 => by
    unfold sg_ys
    rw [sg_ys_u h n, mv_up_n (fun q => h q.1.symm)]
theorem sg_mn_u {c i u : Nat} {v : Int} (h : c ≠ 14) (h2 : c ≠ 15) : sg_mn (mv_up S c i v) u = sg_mn S u := by
  unfold sg_mn
  rw [sg_ys_u h, mv_up_n (fun q => h2 q.1.symm)]
theorem sg_C_ys {c i j : Nat} {v : Int} (h : c ≠ 14) (h2 : c ≠ 15) (hq : M 25 j = sg_ys S j (S 15 j).toNat) : M 25 j = sg_ys (mv_up S c i v) j (mv_up S c i v 15 j).toNat := by
  rw [sg_ys_u h, mv_up_n (fun q => h2 q.1.symm)]
  exact hq
theorem sg_wf_16 (hw : sg_wf S) {i : Nat} {v : Int} (hv : 0 ≤ v ∧ v ≤ 999) : sg_wf (mv_up S 16 i v) := by
  refine ⟨hw.1, hw.2.1, hw.2.2.1, hw.2.2.2.1, hw.2.2.2.2.1, ⟨fun j hj => ?_, hw.2.2.2.2.2.1.2⟩, hw.2.2.2.2.2.2⟩
  by_cases q : j = i
  · rw [q, mv_up_s]
    exact hv
  · rw [mv_up_n (fun z => q z.2)]
    exact hw.2.2.2.2.2.1.1 j hj
theorem mv_up_sm {S M : mv_Mem} {a b i j : Nat} {v : Int} (h : M a j = S b j) : mv_up M a i v a j = mv_up S b i v b j := by
  by_cases q : j = i
  · rw [q, mv_up_s, mv_up_s]
  · rw [mv_up_n (fun z => q z.2), mv_up_n (fun z => q z.2)]
    exact h
theorem sg_C_16 (hC : sg_C 0 S M) {i : Nat} {v : Int} : sg_C 0 (mv_up S 16 i v) (mv_up M 26 i v) :=
  ⟨hC.1, hC.2.1, hC.2.2.1, hC.2.2.2.1, hC.2.2.2.2.1, fun j hj => have q := hC.2.2.2.2.2.1 j hj; ⟨q.1, q.2.1, q.2.2.1, q.2.2.2.1, q.2.2.2.2.1, q.2.2.2.2.2.1, q.2.2.2.2.2.2.1, sg_C_ys (M := M) (by decide) (by decide) q.2.2.2.2.2.2.2⟩, fun j hj => ⟨mv_up_sm (hC.2.2.2.2.2.2.1 j hj).1, (hC.2.2.2.2.2.2.1 j hj).2⟩, hC.2.2.2.2.2.2.2⟩
theorem sg_W_16 (hW : sg_W S M) {i : Nat} {v : Int} : sg_W (mv_up S 16 i v) M := hW
theorem sg_bid_16n {o i k : Nat} {v : Int} (h : o ≠ i) : sg_bid (mv_up S 16 i v) o k = sg_bid S o k := by
  have e : mv_up S 16 i v 16 o = S 16 o := mv_up_n (fun q => h q.2)
  show sg_if (sg_cg S (o / 3) (sg_wo S o k)) (100 * (sg_yl S (o / 3) (S 1 k) * (mv_up S 16 i v 16 o + sg_mn (mv_up S 16 i v) (o / 3)) - S 11 (o / 3) - S 13 (o / 3)) - sg_cr S (o / 3) (S 1 k) * sg_wo S o k) 0 = _
  rw [e, sg_mn_u (by decide) (by decide)]
  rfl
theorem sg_bid_16y {o k : Nat} {v : Int} (h : sg_cg S (o / 3) (sg_wo S o k)) : sg_bid (mv_up S 16 o v) o k = sg_bid S o k + 100 * sg_yl S (o / 3) (S 1 k) * (v - S 16 o) := by
  have e : mv_up S 16 o v 16 o = v := mv_up_s
  have e1 : sg_bid S o k = sg_wt S o (S 1 k) - sg_cr S (o / 3) (S 1 k) * sg_wo S o k := sg_if_y h
  have e2 : sg_bid (mv_up S 16 o v) o k = 100 * (sg_yl S (o / 3) (S 1 k) * (mv_up S 16 o v 16 o + sg_mn (mv_up S 16 o v) (o / 3)) - S 11 (o / 3) - S 13 (o / 3)) - sg_cr S (o / 3) (S 1 k) * sg_wo S o k := sg_if_y h
  rw [e2, e1, e, sg_mn_u (by decide) (by decide)]
  unfold sg_wt
  have h1 : sg_yl S (o / 3) (S 1 k) * (v + sg_mn S (o / 3)) = sg_yl S (o / 3) (S 1 k) * (S 16 o + sg_mn S (o / 3)) + sg_yl S (o / 3) (S 1 k) * (v - S 16 o) := by
    rw [← Int.mul_add]
    congr 1
    omega
  have h2 : 100 * sg_yl S (o / 3) (S 1 k) * (v - S 16 o) = 100 * (sg_yl S (o / 3) (S 1 k) * (v - S 16 o)) := Int.mul_assoc _ _ _
  rw [h1, h2]
  omega
theorem sg_bid_16c {o k : Nat} {v : Int} (h : ¬ sg_cg S (o / 3) (sg_wo S o k)) : sg_bid (mv_up S 16 o v) o k = 0 := sg_if_n h
theorem sg_g_16 {o k : Nat} {v : Int} : ∀ n, sg_g (mv_up S 16 o v) o k n = sg_g S o k n
  | 0 => rfl
  | n + 1 => by
    show (if ((n % 3 : Nat) : Int) < S 0 2 ∧ (n : Int) ≠ (o : Int) ∧ (sg_g (mv_up S 16 o v) o k n).2 < sg_bid (mv_up S 16 o v) n k then ((n : Int), sg_bid (mv_up S 16 o v) n k) else sg_g (mv_up S 16 o v) o k n) = (if ((n % 3 : Nat) : Int) < S 0 2 ∧ (n : Int) ≠ (o : Int) ∧ (sg_g S o k n).2 < sg_bid S n k then ((n : Int), sg_bid S n k) else sg_g S o k n)
    rw [sg_g_16 n]
    by_cases q : n = o
    · rw [if_neg (fun z => z.2.1 (by omega)), if_neg (fun z => z.2.1 (by omega))]
    · rw [sg_bid_16n q]
theorem cl_leastPriceFor (hw : sg_wf S) (hC : sg_C 0 S M) (hW : sg_W S M) (hB : sg_Bd S M) {o k : Nat} (ho : o < 18) (hou : (o : Int) < 3 * S 0 3) (hm : ((o % 3 : Nat) : Int) < S 0 2) (hk : sg_ok S k) (hy : M 74 (sg_pl S k) = sg_yl S (o / 3) (S 1 k))
    (h : ∀ x, 0 ≤ x → x ≤ 1000 → (∀ v, 0 ≤ v → v ≤ 999 → 0 < sg_yl S (o / 3) (S 1 k) → (x ≤ v ↔ sg_go (mv_up S 16 o v) o k)) → F x M) :
    mv_Wp G 52 [.inr (.inr 72), .inr (.inr 6), .inl (o : Int), .inl (sg_pl S k : Int)] (mh l) M (mv_qi (mh l) F) := by
  refine vw_X6_leastPriceFor ?_
  have hp := (sg_pl_lt hw hk).2
  have c1 : M 13 (sg_pl S k) = S 4 k := (hC.2.1 k hk).2.2.2.2.1
  have c2 : M 26 o = S 16 o := (hC.2.2.2.2.2.2.1 o ho).1
  have e1 : Int.tdiv (o : Int) 3 = ((o / 3 : Nat) : Int) := by rw [sg_td (by omega)]; omega
  have hyb := sg_yl_b hw (show o / 3 < 6 by omega) (sg_s1 hw hk)
  have hbb := sg_bid_b hw ho hm hk
  have hpr := (sg_w16 hw ho).1
  have hb := hB o k hou hm hk
  have e2 : Int.toNat ((o : Int) * 48 + (sg_pl S k : Int)) = 48 * o + sg_pl S k := by omega
  refine cl_wayOf hw hC hW ho hm hk ?_
  rw [Int.toNat_natCast, c1, hy, e1, e2, Int.toNat_natCast]
  refine ⟨by omega, ?_⟩
  split
  case isFalse q0 =>
    refine mv_qi_i (h 1000 (by omega) (by omega) (fun v h0 h9 _ => ⟨fun z => by omega, fun z => absurd z.1 q0⟩))
  rename_i q0
  refine ⟨by omega, ?_⟩
  split
  · rename_i q1
    exact mv_qi_i (h 1000 (by omega) (by omega) (fun v h0 h9 hyp => by omega))
  rename_i q1
  refine ⟨⟨by decide, by omega⟩, cl_canGo hC (by omega) (fun hg => ?_) (fun hg => ?_)⟩
  case refine_2 =>
    rw [if_pos rfl]
    exact mv_qi_i (h 1000 (by omega) (by omega) (fun v h0 h9 _ => ⟨fun z => by omega, fun z => by
      have z2 := z.2.1
      rw [sg_bid_16c hg] at z2
      omega⟩))
  rw [if_neg (by decide)]
  -- what is needed at least
  have fin : ∀ need : Int, 0 < need → need ≤ 160000001 → (∀ b : Int, need ≤ b ↔ (0 < b ∧ ((sg_g S o k (3 * (S 0 3).toNat)).2 < b ∨ (b = (sg_g S o k (3 * (S 0 3).toNat)).2 ∧ (o : Int) < (sg_g S o k (3 * (S 0 3).toNat)).1)))) →
      mv_R64 (need - sg_bid S o k) ∧ (0 ≤ (o : Int) ∧ (o : Int) < ((18 : Nat) : Int)) ∧ mv_R64 (-(need - sg_bid S o k)) ∧ (0 ≤ (sg_pl S k : Int) ∧ (sg_pl S k : Int) < ((48 : Nat) : Int)) ∧ mv_R64 (100 * sg_yl S (o / 3) (S 1 k)) ∧
      mv_Wp G 222 [.inr (.inl (-(need - sg_bid S o k))), .inr (.inl (100 * sg_yl S (o / 3) (S 1 k)))] (mh l) M (mv_ql (mh l) fun x4 M4 =>
        mv_R64 (S 16 o - x4) ∧
        mv_Wp G 225 [.inr (.inl 1000), .inr (.inl (S 16 o - x4))] (mh l) M4 (mv_ql (mh l) fun x5 M5 =>
        mv_Wp G 224 [.inr (.inl 0), .inr (.inl x5)] (mh l) M5 (mv_ql (mh l) fun x6 M6 =>
        mv_R32 x6 ∧ mv_qi (mh l) F (some (.inl x6)) (mh l) M6))) := by
    intro need hn0 hn1 hn2
    refine ⟨by omega, by omega, by omega, by omega, by omega, cl_floorDiv (by omega) (by omega) ?_⟩
    have hD : 0 < 100 * sg_yl S (o / 3) (S 1 k) := by omega
    have hq1 := Int.mul_ediv_self_le (x := -(need - sg_bid S o k)) (k := 100 * sg_yl S (o / 3) (S 1 k)) (by omega)
    have hq2 := Int.lt_mul_ediv_self_add (x := -(need - sg_bid S o k)) hD
    have hg2 : ∀ v : Int, S 16 o - (-(need - sg_bid S o k)) / (100 * sg_yl S (o / 3) (S 1 k)) ≤ v ↔ need ≤ sg_bid S o k + 100 * sg_yl S (o / 3) (S 1 k) * (v - S 16 o) := by
      intro v
      generalize hqq : (-(need - sg_bid S o k)) / (100 * sg_yl S (o / 3) (S 1 k)) = qq
      have t : qq ≥ S 16 o - v ↔ (S 16 o - v) * (100 * sg_yl S (o / 3) (S 1 k)) ≤ -(need - sg_bid S o k) := by
        rw [← hqq]
        exact Int.le_ediv_iff_mul_le hD
      have t2 : (S 16 o - v) * (100 * sg_yl S (o / 3) (S 1 k)) = -(100 * sg_yl S (o / 3) (S 1 k) * (v - S 16 o)) := by
        rw [Int.mul_comm, ← Int.mul_neg]
        congr 1
        omega
      rw [t2] at t
      constructor
      · intro z
        have := t.1 (by omega)
        omega
      · intro z
        have := t.2 (by omega)
        omega
    have hbig : ((-(need - sg_bid S o k)) / (100 * sg_yl S (o / 3) (S 1 k))).natAbs ≤ 600000000 := by
      have a1 : (-600000000 : Int) ≤ (-(need - sg_bid S o k)) / (100 * sg_yl S (o / 3) (S 1 k)) := (Int.le_ediv_iff_mul_le hD).2 (by
        have : (600000000 : Int) * 1 ≤ 600000000 * (100 * sg_yl S (o / 3) (S 1 k)) := Int.mul_le_mul_of_nonneg_left (by omega) (by omega)
        rw [Int.neg_mul]
        omega)
      have a2 : (-(need - sg_bid S o k)) / (100 * sg_yl S (o / 3) (S 1 k)) < 600000000 := (Int.ediv_lt_iff_lt_mul hD).2 (by
        have : (600000000 : Int) * 1 ≤ 600000000 * (100 * sg_yl S (o / 3) (S 1 k)) := Int.mul_le_mul_of_nonneg_left (by omega) (by omega)
        omega)
      omega
    generalize hz : S 16 o - (-(need - sg_bid S o k)) / (100 * sg_yl S (o / 3) (S 1 k)) = z at hg2
    refine ⟨by omega, cl_minl (cl_maxl ?_)⟩
    have hgo : ∀ v, sg_go (mv_up S 16 o v) o k ↔ z ≤ v := by
      intro v
      rw [hg2 v, hn2, ← sg_bid_16y hg]
      unfold sg_go
      rw [show (3 * (mv_up S 16 o v 0 3).toNat) = 3 * (S 0 3).toNat from rfl, sg_g_16]
      exact ⟨fun y => y.2, fun y => ⟨q0, y⟩⟩
    refine ⟨?_, mv_qi_i (h _ ?_ ?_ (fun v h0 h9 _ => ?_))⟩
    · split <;> split <;> omega
    · split <;> split <;> omega
    · split <;> split <;> omega
    · rw [hgo v]
      split <;> split <;> omega
  refine cl_greatest hw hC hB hk (by omega) ?_
  rw [hb, hy, c2]
  rcases sg_g_i S o k (3 * (S 0 3).toNat) with hgi | ⟨j, j1, j2, j3, j4, j5⟩
  · rw [hgi, if_pos rfl]
    rw [hgi] at fin
    refine ⟨by omega, by omega, by omega, fin 1 (by omega) (by omega) (fun b => ?_)⟩
    show _ ↔ 0 < b ∧ (0 < b ∨ (b = 0 ∧ (o : Int) < -1))
    omega
  · have hu := sg_nu hw
    have hbj := hB j k (by omega) j2 hk
    have hbjb := sg_bid_b hw (show j < 18 by omega) j2 hk
    rw [j4] at fin ⊢
    have hF : ∀ need : Int, (∀ b : Int, need ≤ b ↔ 0 < b ∧ (sg_bid S j k < b ∨ (b = sg_bid S j k ∧ (o : Int) < (j : Int)))) → (0 < need → need ≤ 160000001 → _) := fun need hn a b => fin need a b hn
    show (if (j : Int) = -1 then _ else _)
    rw [if_neg (by omega), show Int.toNat ((j : Int) * 48 + (sg_pl S k : Int)) = 48 * j + sg_pl S k by omega, hbj]
    refine ⟨by omega, by omega, by omega, ?_⟩
    split
    · rename_i q
      exact ⟨by omega, by omega, by omega, by omega, fin _ (by omega) (by omega) (fun b => by
        show _ ↔ 0 < b ∧ (sg_bid S j k < b ∨ (b = sg_bid S j k ∧ (o : Int) < (j : Int)))
        omega)⟩
    · rename_i q
      exact ⟨by omega, by omega, by omega, by omega, fin _ (by omega) (by omega) (fun b => by
        show _ ↔ 0 < b ∧ (sg_bid S j k < b ∨ (b = sg_bid S j k ∧ (o : Int) < (j : Int)))
        omega)⟩
end PR
