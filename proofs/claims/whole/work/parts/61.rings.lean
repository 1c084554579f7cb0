/-! RINGS: what the class reckons -/
def rg_cu (C : Nat → Int × Int) (m : Nat) (M : mv_Mem) : Prop := M 79 4 = (m : Int) ∧ ∀ i, i < m → M 82 i = (C i).1 ∧ M 83 i = (C i).2
def rg_bo (C : Nat → Int × Int) (m : Nat) : Prop := ∀ i, i < m → (0 ≤ (C i).1 ∧ (C i).1 ≤ 317413800) ∧ (0 < (C i).2 ∧ (C i).2 ≤ 98010)
def rg_c : Nat → Nat
  | 0 => 2
  | u + 1 => rg_c u + 1 + u
theorem rg_c_6 {u : Nat} (h : u ≤ 6) : rg_c u ≤ 23 := by
  rcases (show u = 0 ∨ u = 1 ∨ u = 2 ∨ u = 3 ∨ u = 4 ∨ u = 5 ∨ u = 6 by omega) with rfl | rfl | rfl | rfl | rfl | rfl | rfl <;> decide
theorem rg_mb {a b A B : Int} (h1 : -A ≤ a ∧ a ≤ A) (h2 : -B ≤ b ∧ b ≤ B) : -(A * B) ≤ a * b ∧ a * b ≤ A * B := by
  have e : (a * b).natAbs ≤ A.natAbs * B.natAbs := by
    rw [Int.natAbs_mul]
    exact Nat.mul_le_mul (by omega) (by omega)
  have e2 : ((A.natAbs * B.natAbs : Nat) : Int) = A * B := by
    rw [Int.natCast_mul, Int.natAbs_of_nonneg (by omega), Int.natAbs_of_nonneg (by omega)]
  omega
theorem rg_is_bo {C : Nat → Int × Int} {m at' : Nat} {x : Int × Int} (h : rg_bo C m) (h1 : 1 ≤ at') (h2 : at' ≤ m) (hx : (0 ≤ x.1 ∧ x.1 ≤ 317413800) ∧ (0 < x.2 ∧ x.2 ≤ 98010)) : rg_bo (rg_is C at' x) (m + 1) := by
  intro i hi
  unfold rg_is
  split
  · exact h i (by omega)
  · split
    · exact hx
    · exact h (i - 1) (by omega)
section RI
variable {S : mv_Mem} {G : mv_G} {l : Nat} {M : mv_Mem} {F : Int → mv_Mem → Prop}
theorem cl_addCut {M0 : mv_Mem} {F : mv_Mem → Prop} {C : Nat → Int × Int} {m : Nat} {a b : Int} (hs : rg_ps C m) (hm : m < 23) (hcu : rg_cu C m M0) (hbo : rg_bo C m) (ha : -317413800 ≤ a ∧ a ≤ 317413800) (hb : -98010 ≤ b ∧ b ≤ 98010)
    (h : ∀ (M' : mv_Mem) (C' : Nat → Int × Int) (m' : Nat), rg_ps C' m' → rg_cu C' m' M' → rg_bo C' m' → m' ≤ m + 1 → (∀ a i, a ≠ 82 → a ≠ 83 → ¬ (a = 79 ∧ i = 4) → M' a i = M0 a i) → (∀ Q Q' : Int → Int → Prop, rg_cn Q C m → (∀ x y, 0 < x → 0 < y → Q' x y → Q x y ∨ rg_Z a b x y) → rg_cn Q' C' m') → F M') :
    mv_Wp G 37 [.inr (.inr 79), .inr (.inl a), .inr (.inl b)] (mh l) M0 (mv_qv (mh l) F) := by
  obtain ⟨c4, cc⟩ := hcu
  have none' : (∀ x y, 0 < x → 0 < y → ¬ rg_Z a b x y) → F M0 := fun hz => h M0 C m hs ⟨c4, cc⟩ hbo (by omega) (fun _ _ _ _ _ => rfl) (fun Q Q' hc hq => rg_cn_mo hc (fun x y hx hy hq' => by
    rcases hq x y hx hy hq' with z | z
    · exact z
    · exact absurd z (hz x y hx hy)))
  have core : ∀ n d : Int, (0 ≤ n ∧ n ≤ 317413800) → (0 < d ∧ d ≤ 98010) → (∀ x y, 0 < x → 0 < y → rg_Z a b x y → fr_e (n, d) (x, y)) → mv_Run G 37 136 7420 58 [(0, .inr (.inr 79)), (5, .inr (.inl n)), (7, .inr (.inl d)), (9, .inl (m : Int))] [] (mh l) M0 (mv_qv (mh l) F) := by
    intro n d hn hd hz
    have put : ∀ at' : Nat, 1 ≤ at' → at' ≤ m → fr_l (C (at' - 1)) (n, d) → (at' < m → fr_l (n, d) (C at')) → ∀ (k i : Nat) (M : mv_Mem), i = at' + k → i ≤ m → M 79 4 = (m : Int) → (∀ a i, a ≠ 82 → a ≠ 83 → ¬ (a = 79 ∧ i = 4) → M a i = M0 a i) → (∀ j, j < i → M 82 j = (C j).1 ∧ M 83 j = (C j).2) → (∀ j, i < j → j ≤ m → M 82 j = (C (j - 1)).1 ∧ M 83 j = (C (j - 1)).2) →
        mv_Run G 37 136 7420 137 [(0, .inr (.inr 79)), (5, .inr (.inl n)), (7, .inr (.inl d)), (9, .inl (at' : Int)), (10, .inl (i : Int))] [] (mh l) M (mv_qv (mh l) F) := by
      intro at' a1 a2 a3 a4 k
      induction k with
      | zero =>
        intro i M hi hi2 e4 fr lo hi3
        refine vr_X3_addCut_137 ?_
        have ei : i = at' := by omega
        subst ei
        rw [if_pos (Int.le_refl _), Int.toNat_natCast, mv_up_c (show (79 : Nat) ≠ 83 by decide), mv_up_c (show (79 : Nat) ≠ 82 by decide), e4]
        refine ⟨by omega, by omega, by omega, mv_qv_i (h _ (rg_is C i (n, d)) (m + 1) (rg_is_ps hs a1 a2 hd.1 a3 a4) ⟨?_, fun j hj => ?_⟩ (rg_is_bo hbo a1 a2 ⟨hn, hd⟩) (Nat.le_refl _) (fun b j h1 h2 h3 => ?_) (fun Q Q' hc hq => rg_cn_add hc a2 (fun x y hx hy hq' => ?_)))⟩
        · rw [mv_up_s]
          omega
        · rw [mv_up_c (by decide), mv_up_c (by decide), mv_up_c (show (83 : Nat) ≠ 79 by decide)]
          unfold rg_is
          by_cases c1 : j < i
          · rw [if_pos c1, mv_up_j (by omega), mv_up_j (by omega), mv_up_c (by decide)]
            exact lo j c1
          · by_cases c2 : j = i
            · rw [if_neg c1, if_pos c2, c2, mv_up_s, mv_up_s]
              exact ⟨rfl, rfl⟩
            · rw [if_neg c1, if_neg c2, mv_up_j c2, mv_up_j c2, mv_up_c (by decide)]
              exact hi3 j (by omega) (by omega)
        · rw [mv_up_n h3, mv_up_c h2, mv_up_c h1]
          exact fr b j h1 h2 h3
        · rcases hq x y hx hy hq' with z | z
          · exact Or.inl z
          · exact Or.inr (hz x y hx hy z)
      | succ k ih =>
        intro i M hi hi2 e4 fr lo hi3
        refine vr_X3_addCut_137 ?_
        rw [if_neg (by omega), show ((i : Int) - 1).toNat = i - 1 by omega, Int.toNat_natCast, mv_up_c (show (83 : Nat) ≠ 82 by decide), show (i : Int) + -1 = ((i - 1 : Nat) : Int) by omega]
        refine ⟨by omega, by omega, by omega, by omega, by omega, by omega, by omega, ih (i - 1) _ (by omega) (by omega) ?_ (fun b j h1 h2 h3 => ?_) (fun j hj => ?_) (fun j hj hj2 => ?_)⟩
        · rw [mv_up_c (by decide), mv_up_c (by decide)]
          exact e4
        · rw [mv_up_c h2, mv_up_c h1]
          exact fr b j h1 h2 h3
        · rw [mv_up_c (by decide), mv_up_j (by omega), mv_up_j (by omega), mv_up_c (by decide)]
          exact lo j (by omega)
        · rw [mv_up_c (by decide)]
          by_cases c : j = i
          · rw [c, mv_up_s, mv_up_s]
            exact lo (i - 1) (by omega)
          · rw [mv_up_j c, mv_up_j c, mv_up_c (by decide)]
            exact hi3 j (by omega) hj2
    have look : ∀ at' : Nat, 1 ≤ at' → at' ≤ m → (at' < m → fr_l (n, d) (C at')) → mv_Run G 37 136 7420 58 [(0, .inr (.inr 79)), (5, .inr (.inl n)), (7, .inr (.inl d)), (9, .inl (at' : Int))] [] (mh l) M0 (mv_qv (mh l) F) := by
      intro at'
      induction at' with
      | zero => intro h1; omega
      | succ at' ih =>
        intro h1 h2 h3
        refine vr_X3_addCut_58 ?_
        obtain ⟨q1, q2⟩ := cc at' (by omega)
        obtain ⟨b1, b2⟩ := hbo at' (by omega)
        have m1 := rg_mb (a := (C at').1) (b := d) (A := 317413800) (B := 98010) (by omega) (by omega)
        have m2 := rg_mb (a := n) (b := (C at').2) (A := 317413800) (B := 98010) (by omega) (by omega)
        simp only [mv_cmp_le, mv_cmp_eq]
        rw [if_neg (show ¬ ((at' + 1 : Nat) : Int) ≤ 0 by omega), show (((at' + 1 : Nat) : Int) - 1).toNat = at' by omega, q1, q2, c4]
        refine ⟨by omega, by omega, by omega, by omega, by omega, by omega, ?_⟩
        by_cases c : (C at').1 * d ≤ n * (C at').2
        · rw [if_pos c, if_neg (show ¬ ((at' + 1 : Nat) : Int) ≤ 0 by omega)]
          refine ⟨by omega, by omega, by omega, by omega, by omega, by omega, ?_⟩
          by_cases e : (C at').1 * d = n * (C at').2
          · rw [if_pos e]
            exact mv_qv_i (h M0 C m hs ⟨c4, cc⟩ hbo (by omega) (fun _ _ _ _ _ => rfl) (fun Q Q' hc hq => rg_cn_in hc (x := (n, d)) hd.1 (i := at') (by omega) e (fun x y hx hy hq' => by
              rcases hq x y hx hy hq' with z | z
              · exact Or.inl z
              · exact Or.inr (hz x y hx hy z))))
          · rw [if_neg e]
            exact put (at' + 1) h1 h2 (by
              rw [Nat.add_sub_cancel]
              unfold fr_l
              dsimp only
              omega) h3 (m - (at' + 1)) m M0 (by omega) (Nat.le_refl _) c4 (fun _ _ _ _ _ => rfl) (fun j hj => cc j hj) (fun j hj hj2 => by omega)
        · rw [if_neg c, show ((at' + 1 : Nat) : Int) + -1 = (at' : Int) by omega]
          refine ⟨by omega, ih ?_ (by omega) (fun _ => ?_)⟩
          · refine Classical.byContradiction (fun z => ?_)
            have e0 : at' = 0 := by omega
            subst e0
            rw [hs.2.1, Int.zero_mul] at c
            have := Int.mul_nonneg hn.1 (Int.le_of_lt (hs.2.2.1 0 hs.1))
            omega
          · unfold fr_l
            dsimp only
            omega
    exact look m hs.1 (Nat.le_refl _) (fun z => by omega)
  have e23 : (M0 79 4 < 23) := by omega
  refine vw_X3_addCut ?_
  simp only [mv_cmp_ge, mv_cmp_eq, mv_cmp_lt]
  rw [c4]
  have hm23 : (m : Int) < 23 := by omega
  by_cases b0 : b = 0
  · rw [if_pos (by omega), if_pos (by omega), if_pos b0]
    exact mv_qv_i (none' (fun x y _ _ z => z.1 b0))
  · by_cases b1 : 0 ≤ b
    · rw [if_pos b1, if_pos b1, if_neg b0]
      by_cases a0 : a < 0
      · rw [if_pos a0]
        refine mv_qv_i (none' (fun x y hx hy z => ?_))
        rcases rg_Z_x hx hy z with w | w <;> omega
      · rw [if_neg a0, if_pos hm23]
        refine core a b (by omega) (by omega) (fun x y hx hy z => ?_)
        rcases rg_Z_x hx hy z with w | w
        · exact w.2.2
        · omega
    · rw [if_neg b1, if_neg b1]
      refine ⟨by omega, by omega, ?_⟩
      rw [if_neg (by omega)]
      by_cases a0 : -a < 0
      · rw [if_pos a0]
        refine mv_qv_i (none' (fun x y hx hy z => ?_))
        rcases rg_Z_x hx hy z with w | w <;> omega
      · rw [if_neg a0, if_pos hm23]
        refine core (-a) (-b) (by omega) (by omega) (fun x y hx hy z => ?_)
        rcases rg_Z_x hx hy z with w | w
        · omega
        · exact w.2.2
theorem cl_addCut0 {M0 : mv_Mem} {F : mv_Mem → Prop} (h4 : M0 79 4 = 0) (h : F (mv_up (mv_up (mv_up M0 82 0 0) 83 0 1) 79 4 1)) : mv_Wp G 37 [.inr (.inr 79), .inr (.inl 0), .inr (.inl 1)] (mh l) M0 (mv_qv (mh l) F) := by
  refine vw_X3_addCut ?_
  simp only [mv_cmp_ge, mv_cmp_eq, mv_cmp_lt]
  rw [if_pos (by decide), if_pos (by decide), if_neg (by decide), if_neg (by decide), h4, if_pos (by decide)]
  refine vr_X3_addCut_58 ?_
  rw [if_pos (by decide), if_pos (by decide), h4]
  refine vr_X3_addCut_137 ?_
  rw [if_pos (by decide), mv_up_c (show (79 : Nat) ≠ 83 by decide), mv_up_c (show (79 : Nat) ≠ 82 by decide), h4]
  exact ⟨by decide, by decide, by decide, mv_qv_i h⟩
theorem cl_commonDivisor {a b : Nat} (hb : 0 < b) (ha : a ≤ 317413800) (hb2 : b ≤ 98010) (h : F ((Nat.gcd a b : Nat) : Int) M) : mv_Wp G 41 [.inr (.inl (a : Int)), .inr (.inl (b : Int))] (mh l) M (mv_ql (mh l) F) := by
  have key : ∀ (k t g r : Nat), 0 < g → r ≤ g → g * r < 2 ^ k → t + k ≤ 199 → Nat.gcd g r = Nat.gcd a b → mv_Run G 41 136 7420 9 [(4, .inr (.inl (g : Int))), (6, .inr (.inl (r : Int))), (8, .inl (t : Int))] [] (mh l) M (mv_ql (mh l) F) := by
    intro k
    induction k with
    | zero =>
      intro t g r hg hr hp ht he
      have r0 : r = 0 := by
        refine Classical.byContradiction (fun z => ?_)
        have : 1 * 1 ≤ g * r := Nat.mul_le_mul hg (by omega)
        omega
      subst r0
      rw [Nat.gcd_zero_right] at he
      refine vr_X3_commonDivisor_9 ?_
      simp only [mv_cmp_eq]
      rw [if_neg (by omega), if_pos (by rfl), if_neg (by omega), he]
      exact mv_ql_i h
    | succ k ih =>
      intro t g r hg hr hp ht he
      refine vr_X3_commonDivisor_9 ?_
      simp only [mv_cmp_eq]
      by_cases r0 : r = 0
      · subst r0
        rw [Nat.gcd_zero_right] at he
        rw [if_neg (by omega), if_pos (by rfl), if_neg (by omega), he]
        exact mv_ql_i h
      · rw [if_neg (by omega), if_neg (by omega), sg_tm (by omega), show (g : Int) % (r : Int) = ((g % r : Nat) : Int) from rfl, show (t : Int) + 1 = ((t + 1 : Nat) : Int) by omega]
        have h1 : g % r < r := Nat.mod_lt _ (by omega)
        have h2 : 2 * (g % r) ≤ g := by
          have e := Nat.div_add_mod g r
          have h3 : r * 1 ≤ r * (g / r) := Nat.mul_le_mul (Nat.le_refl _) (Nat.div_pos hr (by omega))
          omega
        have h4 : r * (g % r) < 2 ^ k := by
          have h5 : r * (2 * (g % r)) ≤ r * g := Nat.mul_le_mul (Nat.le_refl _) h2
          rw [Nat.mul_comm r g, Nat.mul_left_comm] at h5
          rw [Nat.pow_succ] at hp
          omega
        refine ⟨by omega, by omega, ih (t + 1) r (g % r) (by omega) (by omega) h4 (by omega) ?_⟩
        rw [← he, Nat.gcd_comm r, ← Nat.gcd_rec, Nat.gcd_comm]
  refine vw_X3_commonDivisor ?_
  by_cases c : a ≤ b
  · have h1 : b * a < 2 ^ 64 := by
      have := Nat.mul_le_mul hb2 ha
      omega
    exact key 64 0 b a hb c h1 (by decide) (Nat.gcd_comm _ _)
  · refine vr_X3_commonDivisor_9 ?_
    simp only [mv_cmp_eq]
    rw [if_neg (by decide), if_neg (by omega), sg_tm (by omega), show (b : Int) % (a : Int) = ((b % a : Nat) : Int) from rfl]
    have h1 : b % a < a := Nat.mod_lt _ (by omega)
    have h2 : a * (b % a) < 2 ^ 64 := by
      have := Nat.mul_le_mul ha (show b % a ≤ 317413800 by omega)
      omega
    refine ⟨by omega, by decide, key 64 1 a (b % a) (by omega) (by omega) h2 (by decide) ?_⟩
    rw [Nat.gcd_comm a, ← Nat.gcd_rec]
theorem cl_isThere {k x y : Int} (hy : 0 ≤ y ∧ y ≤ 1000000) (h1 : rg_ok k x y → F 1 M) (h0 : ¬ rg_ok k x y → F 0 M) : mv_Wp G 39 [.inr (.inr 79), .inl k, .inr (.inl x), .inr (.inl y)] (mh l) M (mv_qi (mh l) F) := by
  unfold rg_ok rg_R at h1 h0
  refine vw_X3_isThere ?_
  simp only [mv_cmp_gt]
  by_cases k5 : k = 5
  · rw [if_pos k5]
    exact ⟨by decide, mv_qi_i (h0 (fun z => z.1.1 k5))⟩
  · by_cases k4 : k = 4
    · rw [if_neg k5, if_pos k4]
      exact ⟨by decide, mv_qi_i (h0 (fun z => z.1.2 k4))⟩
    · rw [if_neg k5, if_neg k4]
      by_cases k2 : k = 2
      · rw [if_pos k2]
        refine ⟨by omega, ?_⟩
        by_cases c : 60 * y < x
        · rw [if_pos c]
          exact ⟨by decide, mv_qi_i (h0 (fun z => by have := z.2 k2; omega))⟩
        · rw [if_neg c]
          exact ⟨by decide, mv_qi_i (h1 ⟨⟨k5, k4⟩, fun _ => by omega⟩)⟩
      · rw [if_neg k2]
        exact ⟨by decide, mv_qi_i (h1 ⟨⟨k5, k4⟩, fun z => absurd z k2⟩)⟩
theorem cl_takerAt (hw : sg_wf S) (hC : sg_C 0 S M) {hh qq : Nat → Int} {x y : Int} (hx : 0 ≤ x ∧ x ≤ 700000000) (hy : 0 ≤ y ∧ y ≤ 200000) (h80 : ∀ u : Nat, (u : Int) < S 0 3 → M 80 u = hh u ∧ M 81 u = qq u) (hhb : ∀ u : Nat, (u : Int) < S 0 3 → (-159706800 ≤ hh u ∧ hh u ≤ 159706800) ∧ (0 ≤ qq u ∧ qq u ≤ 98010))
    (h : F (rg_t hh qq (fun u => S 8 u) x y (S 0 3).toNat).1 M) : mv_Wp G 38 [.inr (.inr 79), .inr (.inr 17), .inr (.inl x), .inr (.inl y)] (mh l) M (mv_qi (mh l) F) := by
  have hu := sg_nu hw
  have c17 : M 17 0 = S 0 3 := hC.2.2.2.2.1.1
  have key : ∀ (k u : Nat), u + k = (S 0 3).toNat → mv_Run G 38 136 7420 9 [(0, .inr (.inr 79)), (1, .inr (.inr 17)), (2, .inr (.inl x)), (4, .inr (.inl y)), (6, .inl (rg_t hh qq (fun u => S 8 u) x y u).1), (7, .inr (.inl (rg_t hh qq (fun u => S 8 u) x y u).2)), (9, .inl (u : Int))] [] (mh l) M (mv_qi (mh l) F) := by
    intro k
    induction k with
    | zero =>
      intro u hk
      refine vr_X3_takerAt_9 ?_
      rw [c17, if_pos (by omega)]
      rw [show u = (S 0 3).toNat by omega]
      exact mv_qi_i h
    | succ k ih =>
      intro u hk
      refine vr_X3_takerAt_9 ?_
      obtain ⟨q1, q2⟩ := h80 u (by omega)
      obtain ⟨b1, b2⟩ := hhb u (by omega)
      have c18 : M 18 u = S 8 u := (hC.2.2.2.2.2.1 u (by omega)).1
      have m1 := rg_mb (a := hh u) (b := y) (A := 159706800) (B := 200000) b1 (by omega)
      have m2 := rg_mb (a := qq u) (b := x) (A := 98010) (B := 700000000) (by omega) (by omega)
      have K := ih (u + 1) (by omega)
      simp only [mv_cmp_le]
      rw [c17, if_neg (by omega), Int.toNat_natCast, q1, q2, c18]
      refine ⟨by omega, by omega, by omega, by omega, by omega, ?_⟩
      unfold rg_t at K
      by_cases c : hh u * y - qq u * x ≤ (rg_t hh qq (fun u => S 8 u) x y u).2
      · rw [if_neg (fun z => by have := z.1; omega)] at K
        rw [if_pos c]
        exact ⟨by omega, K⟩
      · rw [if_neg c]
        refine ⟨by omega, cl_isThere ⟨hy.1, by omega⟩ (fun ok => ?_) (fun ok => ?_)⟩
        · rw [if_pos ⟨by omega, ok⟩] at K
          rw [if_neg (by decide)]
          exact ⟨by omega, K⟩
        · rw [if_neg (fun z => ok z.2)] at K
          rw [if_pos rfl]
          exact ⟨by omega, K⟩
  refine vw_X3_takerAt ?_
  exact key (S 0 3).toNat 0 (by omega)
def sg_hm (S : mv_Mem) (s : Int) (u : Nat) : Int := sg_wt S (3 * u) s
def sg_sl (S : mv_Mem) (s : Int) (u : Nat) : Int := sg_cr S u s
theorem sg_hm_b (hw : sg_wf S) {u : Nat} (hu : u < 6) {s : Int} (hs : 0 ≤ s ∧ s ≤ 9) : -159706800 ≤ sg_hm S s u ∧ sg_hm S s u ≤ 157707000 := by
  have h1 := sg_yp_b hw (o := 3 * u) (by omega) hs
  have h2 := hw.2.2.2.2.1.2.2.2.1 u hu
  have h3 := hw.2.2.2.2.1.2.2.2.2.2.1 u hu
  unfold sg_hm sg_wt
  rw [show 3 * u / 3 = u by omega] at *
  omega
theorem cl_findCuts (hw : sg_wf S) {M0 : mv_Mem} {F : mv_Mem → Prop} (hC : sg_C 0 S M0) {s : Int} (hs : 0 ≤ s ∧ s ≤ 9)
    (h : ∀ (M : mv_Mem) (C : Nat → Int × Int) (m : Nat), rg_ps C m → rg_cu C m M → rg_bo C m → m ≤ 23 → rg_cn (rg_P (sg_hm S s) (sg_sl S s) (fun u => S 8 u) (S 0 3).toNat) C m → (∀ u : Nat, (u : Int) < S 0 3 → M 80 u = sg_hm S s u ∧ M 81 u = sg_sl S s u) → (∀ a i, ¬ (79 ≤ a ∧ a ≤ 83) → M a i = M0 a i) → F M) :
    mv_Wp G 36 [.inr (.inr 79), .inr (.inr 17), .inl s] (mh l) M0 (mv_qv (mh l) F) := by
  have hu := sg_nu hw
  have key : ∀ (k u : Nat) (M : mv_Mem) (C : Nat → Int × Int) (m : Nat), u + k = (S 0 3).toNat → rg_ps C m → rg_cu C m M → rg_bo C m → m ≤ rg_c u → rg_cn (rg_P (sg_hm S s) (sg_sl S s) (fun u => S 8 u) u) C m → (∀ w, w < u → M 80 w = sg_hm S s w ∧ M 81 w = sg_sl S s w) → (∀ a i, ¬ (79 ≤ a ∧ a ≤ 83) → M a i = M0 a i) →
      mv_Run G 36 136 7420 21 [(0, .inr (.inr 79)), (1, .inr (.inr 17)), (2, .inl s), (3, .inl (u : Int))] [] (mh l) M (mv_qv (mh l) F) := by
    intro k
    induction k with
    | zero =>
      intro u M C m hk ps cu bo mc cn h80 fr
      refine vr_X3_findCuts_21 ?_
      have c17 : M 17 0 = S 0 3 := (fr 17 0 (by decide)).trans hC.2.2.2.2.1.1
      have eu : u = (S 0 3).toNat := by omega
      rw [c17, if_pos (by omega)]
      have := rg_c_6 (u := u) (by omega)
      exact mv_qv_i (h M C m ps cu bo (by omega) (by rw [← eu]; exact cn) (fun w hw' => h80 w (by omega)) fr)
    | succ k ih =>
      intro u M C m hk ps cu bo mc cn h80 fr
      refine vr_X3_findCuts_21 ?_
      have c17 : M 17 0 = S 0 3 := (fr 17 0 (by decide)).trans hC.2.2.2.2.1.1
      have hu6 : u < 6 := by omega
      have h23 := rg_c_6 (u := u + 1) (by omega)
      have hc1 : rg_c (u + 1) = rg_c u + 1 + u := rfl
      have hb := fun (w : Nat) (hw6 : w < 6) => sg_hm_b hw (u := w) hw6 hs
      have hb2 := fun (w : Nat) (hw6 : w < 6) => sg_cr_b hw (u := w) hw6 hs
      have hCM : sg_C 0 S M := sg_C_fr hC (fun c d1 d2 i => fr c i (by omega))
      rw [c17, if_neg (by omega)]
      refine cl_offerOf (m := 0) hu6 (by omega) (cl_payAtHome hw hCM (o := 3 * u + 0) (by omega) hs ⟨by omega, ?_⟩)
      rw [Int.toNat_natCast]
      have hC2 : sg_C 0 S (mv_up M 80 u (sg_wt S (3 * u + 0) s)) := sg_C_fr hCM (fun c d1 d2 i => mv_up_c (by omega))
      refine cl_carriage hw hC2 hu6 hs ⟨by omega, by omega, by omega, ?_⟩
      rw [mv_up_s, mv_up_c (show (80 : Nat) ≠ 81 by decide), mv_up_s]
      have e80 : sg_wt S (3 * u + 0) s = sg_hm S s u := rfl
      have b1 := hb u hu6
      have b2 : 0 ≤ sg_sl S s u ∧ sg_sl S s u ≤ 98010 := hb2 u hu6
      have es : sg_cr S u s = sg_sl S s u := rfl
      rw [e80, es]
      refine cl_addCut (C := C) (m := m) ps (by omega) ⟨?_, fun i hi => ?_⟩ bo (by omega) (by omega) (fun M1 C1 m1 ps1 cu1 bo1 mc1 fr1 cn1 => ?_)
      · rw [mv_up_c (by decide), mv_up_c (by decide)]
        exact cu.1
      · rw [mv_up_c (by decide), mv_up_c (by decide), mv_up_c (by decide), mv_up_c (by decide)]
        exact cu.2 i hi
      · have g80 : ∀ w, w < u + 1 → M1 80 w = sg_hm S s w ∧ M1 81 w = sg_sl S s w := by
          intro w hw'
          rw [fr1 80 w (by decide) (by decide) (by omega), fr1 81 w (by decide) (by decide) (by omega), mv_up_c (show (80 : Nat) ≠ 81 by decide)]
          by_cases e : w = u
          · rw [e, mv_up_s, mv_up_s]
            exact ⟨rfl, rfl⟩
          · rw [mv_up_j e, mv_up_j e, mv_up_c (by decide)]
            exact h80 w (by omega)
        have g : ∀ a i, ¬ (79 ≤ a ∧ a ≤ 83) → M1 a i = M0 a i := fun a i ha => by
          rw [fr1 a i (by omega) (by omega) (by omega), mv_up_c (by omega), mv_up_c (by omega)]
          exact fr a i ha
        have cnP := cn1 (rg_P (sg_hm S s) (sg_sl S s) (fun u => S 8 u) u) (rg_Pm (sg_hm S s) (sg_sl S s) (fun u => S 8 u) u 0) cn (fun x y _ _ hq => by
          rcases hq with (z | z) | ⟨w, w1, -⟩
          · exact Or.inl z
          · exact Or.inr z.2
          · omega)
        have inner : ∀ (k' v : Nat) (M : mv_Mem) (C : Nat → Int × Int) (m : Nat), v + k' = u → rg_ps C m → rg_cu C m M → rg_bo C m → m ≤ rg_c u + 1 + v → rg_cn (rg_Pm (sg_hm S s) (sg_sl S s) (fun u => S 8 u) u v) C m → (∀ w, w < u + 1 → M 80 w = sg_hm S s w ∧ M 81 w = sg_sl S s w) → (∀ a i, ¬ (79 ≤ a ∧ a ≤ 83) → M a i = M0 a i) →
            mv_Run G 36 136 7420 76 [(0, .inr (.inr 79)), (1, .inr (.inr 17)), (2, .inl s), (3, .inl (u : Int)), (4, .inl (v : Int))] [] (mh l) M (mv_qv (mh l) F) := by
          intro k'
          induction k' with
          | zero =>
            intro v M C m hv ps cu bo mc cn h80 fr
            refine vr_X3_findCuts_76 ?_
            rw [if_pos (by omega)]
            have ev : v = u := by omega
            subst ev
            exact ⟨by omega, ih (v + 1) M C m (by omega) ps cu bo (by omega) (rg_cn_mo cn (fun a b _ _ hq => rg_Pm_n.1 hq)) h80 fr⟩
          | succ k' ihv =>
            intro v M C m hv ps cu bo mc cn h80 fr
            refine vr_X3_findCuts_76 ?_
            obtain ⟨u1, u2⟩ := h80 u (by omega)
            obtain ⟨v1, v2⟩ := h80 v (by omega)
            have bu := hb u hu6
            have bv := hb v (by omega)
            have bu2 : 0 ≤ sg_sl S s u ∧ sg_sl S s u ≤ 98010 := hb2 u hu6
            have bv2 : 0 ≤ sg_sl S s v ∧ sg_sl S s v ≤ 98010 := hb2 v (by omega)
            rw [if_neg (by omega), Int.toNat_natCast, Int.toNat_natCast, u1, u2, v1, v2]
            refine ⟨by omega, by omega, by omega, by omega, by omega, by omega, cl_addCut (C := C) (m := m) ps (by omega) cu bo (by omega) (by omega) (fun M2 C2 m2 ps2 cu2 bo2 mc2 fr2 cn2 => ⟨by omega, ihv (v + 1) M2 C2 m2 (by omega) ps2 cu2 bo2 (by omega) (cn2 _ _ cn (fun x y _ _ hq => ?_)) (fun w hw' => ?_) (fun a i ha => ?_)⟩)⟩
            · rcases hq with z | ⟨w, w1, w2, w3, w4⟩
              · exact Or.inl (Or.inl z)
              · by_cases e : w = v
                · subst e
                  exact Or.inr w4
                · exact Or.inl (Or.inr ⟨w, by omega, w2, w3, w4⟩)
            · rw [fr2 80 w (by decide) (by decide) (by omega), fr2 81 w (by decide) (by decide) (by omega)]
              exact h80 w hw'
            · rw [fr2 a i (by omega) (by omega) (by omega)]
              exact fr a i ha
        exact inner u 0 M1 C1 m1 (by omega) ps1 cu1 bo1 (by omega) cnP g80 g
  refine vw_X3_findCuts (cl_addCut0 mv_up_s ?_)
  have e0 : rg_cu (fun _ => (0, 1)) 1 (mv_up (mv_up (mv_up (mv_up M0 79 4 0) 82 0 0) 83 0 1) 79 4 1) := ⟨by rw [mv_up_s]; rfl, fun i hi => by
    have ei : i = 0 := by omega
    subst ei
    rw [mv_up_c (by decide), mv_up_c (by decide), mv_up_s, mv_up_c (by decide), mv_up_s]
    exact ⟨rfl, rfl⟩⟩
  refine cl_addCut (C := fun _ => (0, 1)) (m := 1) ⟨by decide, rfl, fun i _ => (by decide : (0 : Int) < 1), fun i hi => by omega⟩ (by decide) e0 (fun i _ => (by decide : ((0 : Int) ≤ 0 ∧ (0 : Int) ≤ 317413800) ∧ (0 : Int) < 1 ∧ (1 : Int) ≤ 98010)) (by decide) (by decide) (fun M1 C1 m1 ps1 cu1 bo1 mc1 fr1 cn1 => ?_)
  refine key (S 0 3).toNat 0 M1 C1 m1 (by omega) ps1 cu1 bo1 mc1 (cn1 (fun _ _ => False) _ (fun a b _ _ hq => absurd hq id) (fun x y _ _ hq => ?_)) (fun w hw' => by omega) (fun a i ha => ?_)
  · rcases hq with c | ⟨u, u1, -⟩ | ⟨u, v, u1, u2, -⟩
    · exact Or.inr ⟨by decide, by omega⟩
    · omega
    · omega
  · rw [fr1 a i (by omega) (by omega) (by omega), mv_up_n (by omega), mv_up_c (by omega), mv_up_c (by omega), mv_up_n (by omega)]
end RI
