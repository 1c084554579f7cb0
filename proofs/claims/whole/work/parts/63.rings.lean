/-! RINGS: the model's marks -/
def rg_mu (C : Nat → Int × Int) (m : Nat) (M : mv_Mem) : Prop := M 88 46 = (m : Int) - 1 ∧ ∀ i, i + 1 < m → M 120 i = (C (i + 1)).1 ∧ M 121 i = (C (i + 1)).2
def rg_gc (C : Nat → Int × Int) (m : Nat) : Prop := C 0 = (0, 1) ∧ ∀ i, i < m → Int.gcd (C i).1 (C i).2 = 1
theorem rg_rd_1 {x : Int × Int} (h : Int.gcd x.1 x.2 = 1) : rg_rd x = x := by
  unfold rg_rd
  rw [h]
  show (x.1 / 1, x.2 / 1) = x
  rw [Int.ediv_one, Int.ediv_one]
section RK
variable {S : mv_Mem} {G : mv_G} {l : Nat} {M : mv_Mem} {F : Int → mv_Mem → Prop}
theorem md_divisor {a b : Int} (ha : -100000000000000 ≤ a ∧ a ≤ 100000000000000) (hb : -100000000000000 ≤ b ∧ b ≤ 100000000000000) (h : F ((Nat.gcd a.natAbs b.natAbs : Nat) : Int) M) : mv_Wp G 189 [.inr (.inl a), .inr (.inl b)] (mh l) M (mv_ql (mh l) F) := by
  have key : ∀ (y x : Nat), Nat.gcd x y = Nat.gcd a.natAbs b.natAbs → mv_Run G 189 136 7420 28 [(4, .inr (.inl (x : Int))), (6, .inr (.inl (y : Int)))] [] (mh l) M (mv_ql (mh l) F) := by
    intro y
    induction y using Nat.strongRecOn with
    | ind y ih =>
      intro x he
      refine vr_X12_divisor_28 ?_
      simp only [mv_cmp_eq]
      by_cases y0 : y = 0
      · subst y0
        rw [Nat.gcd_zero_right] at he
        rw [if_pos (by rfl), he]
        exact mv_ql_i h
      · rw [if_neg (by omega), sg_tm (by omega), show (x : Int) % (y : Int) = ((x % y : Nat) : Int) from rfl]
        refine ⟨by omega, ih (x % y) (Nat.mod_lt _ (by omega)) y ?_⟩
        rw [← he, Nat.gcd_comm y, ← Nat.gcd_rec, Nat.gcd_comm]
  have k0 := key b.natAbs a.natAbs rfl
  refine vw_X12_divisor ?_
  simp only [mv_cmp_ge]
  by_cases a0 : 0 ≤ a
  · rw [if_pos a0]
    rw [show ((a.natAbs : Nat) : Int) = a by omega] at k0
    by_cases b0 : 0 ≤ b
    · rw [if_pos b0]
      rw [show ((b.natAbs : Nat) : Int) = b by omega] at k0
      exact k0
    · rw [if_neg b0]
      rw [show ((b.natAbs : Nat) : Int) = -b by omega] at k0
      exact ⟨by omega, k0⟩
  · rw [if_neg a0]
    rw [show ((a.natAbs : Nat) : Int) = -a by omega] at k0
    refine ⟨by omega, ?_⟩
    by_cases b0 : 0 ≤ b
    · rw [if_pos b0]
      rw [show ((b.natAbs : Nat) : Int) = b by omega] at k0
      exact k0
    · rw [if_neg b0]
      rw [show ((b.natAbs : Nat) : Int) = -b by omega] at k0
      exact ⟨by omega, k0⟩
theorem md_marksAt {M0 : mv_Mem} {F : mv_Mem → Prop} {C : Nat → Int × Int} {m : Nat} {a b : Int} (hs : rg_ps C m) (hm : m < 23) (hcu : rg_mu C m M0) (hbo : rg_bo C m) (hgc : rg_gc C m) (ha : -317413800 ≤ a ∧ a ≤ 317413800) (hb : -98010 ≤ b ∧ b ≤ 98010)
    (h : ∀ (M' : mv_Mem) (C' : Nat → Int × Int) (m' : Nat), rg_ps C' m' → rg_mu C' m' M' → rg_bo C' m' → rg_gc C' m' → m' ≤ m + 1 → (∀ a i, a ≠ 120 → a ≠ 121 → ¬ (a = 88 ∧ i = 46) → M' a i = M0 a i) → (∀ Q Q' : Int → Int → Prop, rg_cn Q C m → (∀ x y, 0 < x → 0 < y → Q' x y → Q x y ∨ rg_Z a b x y) → rg_cn Q' C' m') → F M') :
    mv_Wp G 190 [.inr (.inr 88), .inr (.inl a), .inr (.inl b)] (mh l) M0 (mv_qv (mh l) F) := by
  obtain ⟨c4, cc⟩ := hcu
  have hm0 := hs.1
  have none' : (∀ x y, 0 < x → 0 < y → ¬ rg_Z a b x y) → F M0 := fun hz => h M0 C m hs ⟨c4, cc⟩ hbo hgc (by omega) (fun _ _ _ _ _ => rfl) (fun Q Q' hc hq => rg_cn_mo hc (fun x y hx hy hq' => by
    rcases hq x y hx hy hq' with z | z
    · exact z
    · exact absurd z (hz x y hx hy)))
  have core : ∀ n d : Int, (0 < n ∧ n ≤ 317413800) → (0 < d ∧ d ≤ 98010) → Int.gcd n d = 1 → (∀ x y, 0 < x → 0 < y → rg_Z a b x y → fr_e (n, d) (x, y)) → mv_Run G 190 136 7420 82 [(0, .inr (.inr 88)), (7, .inr (.inl n)), (9, .inr (.inl d)), (11, .inl 0)] [] (mh l) M0 (mv_qv (mh l) F) := by
    intro n d hn hd hg hz
    have put : ∀ at' : Nat, at' < m → fr_l (C at') (n, d) → (at' + 1 < m → fr_l (n, d) (C (at' + 1))) → ∀ (k i : Nat) (M : mv_Mem), i = at' + k → i < m → M 88 46 = (m : Int) - 1 → (∀ a i, a ≠ 120 → a ≠ 121 → ¬ (a = 88 ∧ i = 46) → M a i = M0 a i) → (∀ j, j < i → M 120 j = (C (j + 1)).1 ∧ M 121 j = (C (j + 1)).2) → (∀ j, i < j → j < m → M 120 j = (C j).1 ∧ M 121 j = (C j).2) →
        mv_Run G 190 136 7420 163 [(0, .inr (.inr 88)), (7, .inr (.inl n)), (9, .inr (.inl d)), (11, .inl (at' : Int)), (12, .inl (i : Int))] [] (mh l) M (mv_qv (mh l) F) := by
      intro at' a2 a3 a4 k
      induction k with
      | zero =>
        intro i M hi hi2 e4 fr lo hi3
        refine vr_X12_marksAt_163 ?_
        have ei : i = at' := by omega
        subst ei
        rw [if_pos (Int.le_refl _), Int.toNat_natCast, mv_up_c (show (88 : Nat) ≠ 121 by decide), mv_up_c (show (88 : Nat) ≠ 120 by decide), e4]
        refine ⟨by omega, by omega, by omega, mv_qv_i (h _ (rg_is C (i + 1) (n, d)) (m + 1) (rg_is_ps hs (by omega) (by omega) hd.1 (by rw [Nat.add_sub_cancel]; exact a3) a4) ⟨?_, fun j hj => ?_⟩ (rg_is_bo hbo (by omega) (by omega) ⟨⟨by dsimp only; omega, hn.2⟩, hd⟩) ⟨?_, fun j hj => ?_⟩ (Nat.le_refl _) (fun b j h1 h2 h3 => ?_) (fun Q Q' hc hq => rg_cn_add hc (by omega) (fun x y hx hy hq' => ?_)))⟩
        · rw [mv_up_s]
          omega
        · rw [mv_up_c (by decide), mv_up_c (by decide), mv_up_c (show (121 : Nat) ≠ 88 by decide)]
          unfold rg_is
          by_cases c1 : j < i
          · rw [if_pos (by omega), mv_up_j (by omega), mv_up_j (by omega), mv_up_c (by decide)]
            exact lo j c1
          · by_cases c2 : j = i
            · rw [if_neg (by omega), if_pos (by omega), c2, mv_up_s, mv_up_s]
              exact ⟨rfl, rfl⟩
            · rw [if_neg (by omega), if_neg (by omega), mv_up_j c2, mv_up_j c2, mv_up_c (by decide), Nat.add_sub_cancel]
              exact hi3 j (by omega) (by omega)
        · unfold rg_is
          rw [if_pos (by omega)]
          exact hgc.1
        · unfold rg_is
          split
          · exact hgc.2 j (by omega)
          · split
            · exact hg
            · exact hgc.2 (j - 1) (by omega)
        · rw [mv_up_n h3, mv_up_c h2, mv_up_c h1]
          exact fr b j h1 h2 h3
        · rcases hq x y hx hy hq' with z | z
          · exact Or.inl z
          · exact Or.inr (hz x y hx hy z)
      | succ k ih =>
        intro i M hi hi2 e4 fr lo hi3
        refine vr_X12_marksAt_163 ?_
        rw [if_neg (by omega), show ((i : Int) - 1).toNat = i - 1 by omega, Int.toNat_natCast, mv_up_c (show (121 : Nat) ≠ 120 by decide), show (i : Int) + -1 = ((i - 1 : Nat) : Int) by omega]
        refine ⟨by omega, by omega, by omega, by omega, by omega, by omega, by omega, ih (i - 1) _ (by omega) (by omega) ?_ (fun b j h1 h2 h3 => ?_) (fun j hj => ?_) (fun j hj hj2 => ?_)⟩
        · rw [mv_up_c (by decide), mv_up_c (by decide)]
          exact e4
        · rw [mv_up_c h2, mv_up_c h1]
          exact fr b j h1 h2 h3
        · rw [mv_up_c (by decide), mv_up_j (by omega), mv_up_j (by omega), mv_up_c (by decide)]
          exact lo j (by omega)
        · rw [mv_up_c (by decide)]
          by_cases c : j = i
          · rw [c, mv_up_s, mv_up_s]
            have := lo (i - 1) (by omega)
            rw [show i - 1 + 1 = i by omega] at this
            exact this
          · rw [mv_up_j c, mv_up_j c, mv_up_c (by decide)]
            exact hi3 j (by omega) hj2
    have goP : ∀ at' : Nat, at' < m → fr_l (C at') (n, d) → (at' + 1 < m → fr_l (n, d) (C (at' + 1))) → mv_Run G 190 136 7420 163 [(0, .inr (.inr 88)), (7, .inr (.inl n)), (9, .inr (.inl d)), (11, .inl (at' : Int)), (12, .inl ((m : Int) - 1))] [] (mh l) M0 (mv_qv (mh l) F) := by
      intro at' a1 a2 a3
      rw [show (m : Int) - 1 = ((m - 1 : Nat) : Int) by omega]
      exact put at' a1 a2 a3 (m - 1 - at') (m - 1) M0 (by omega) (by omega) c4 (fun _ _ _ _ _ => rfl) (fun j hj => cc j (by omega)) (fun j hj hj2 => by omega)
    have look : ∀ (k at' : Nat), at' + k + 1 = m → fr_l (C at') (n, d) → mv_Run G 190 136 7420 82 [(0, .inr (.inr 88)), (7, .inr (.inl n)), (9, .inr (.inl d)), (11, .inl (at' : Int))] [] (mh l) M0 (mv_qv (mh l) F) := by
      intro k
      induction k with
      | zero =>
        intro at' h1 h2
        refine vr_X12_marksAt_82 ?_
        rw [c4, if_pos (by omega), if_pos (by omega)]
        exact goP at' (by omega) h2 (fun z => by omega)
      | succ k ih =>
        intro at' h1 h2
        refine vr_X12_marksAt_82 ?_
        obtain ⟨q1, q2⟩ := cc at' (by omega)
        obtain ⟨b1, b2⟩ := hbo (at' + 1) (by omega)
        have m1 := rg_mb (a := (C (at' + 1)).1) (b := d) (A := 317413800) (B := 98010) (by omega) (by omega)
        have m2 := rg_mb (a := n) (b := (C (at' + 1)).2) (A := 317413800) (B := 98010) (by omega) (by omega)
        simp only [mv_cmp_ge, mv_cmp_eq]
        rw [c4, if_neg (by omega), Int.toNat_natCast, q1, q2]
        refine ⟨by omega, by omega, by omega, by omega, ?_⟩
        by_cases c : n * (C (at' + 1)).2 ≤ (C (at' + 1)).1 * d
        · rw [if_pos c, if_neg (by omega)]
          refine ⟨by omega, ?_⟩
          have strict : ¬ ((C (at' + 1)).1 = n ∧ (C (at' + 1)).2 = d) → fr_l (n, d) (C (at' + 1)) := by
            intro z
            unfold fr_l
            dsimp only
            refine Classical.byContradiction (fun y => z ?_)
            have e : fr_e (C (at' + 1)) (n, d) := by
              unfold fr_e
              dsimp only
              omega
            have e2 := rg_rd_e b2.1 (y := (n, d)) hd.1 e
            rw [rg_rd_1 (hgc.2 _ (by omega)), rg_rd_1 (x := (n, d)) hg] at e2
            rw [e2]
            exact ⟨rfl, rfl⟩
          by_cases e1 : (C (at' + 1)).1 = n
          · rw [if_pos e1]
            refine ⟨by omega, ?_⟩
            by_cases e2 : (C (at' + 1)).2 = d
            · rw [if_pos e2]
              exact mv_qv_i (h M0 C m hs ⟨c4, cc⟩ hbo hgc (by omega) (fun _ _ _ _ _ => rfl) (fun Q Q' hc hq => rg_cn_in hc (x := (n, d)) hd.1 (i := at' + 1) (by omega) (by unfold fr_e; rw [e1, e2]) (fun x y hx hy hq' => by
                rcases hq x y hx hy hq' with z | z
                · exact Or.inl z
                · exact Or.inr (hz x y hx hy z))))
            · rw [if_neg e2]
              exact goP at' (by omega) h2 (fun _ => strict (fun z => e2 z.2))
          · rw [if_neg e1]
            exact goP at' (by omega) h2 (fun _ => strict (fun z => e1 z.1))
        · rw [if_neg c]
          exact ⟨by omega, ih (at' + 1) (by omega) (by unfold fr_l; dsimp only; omega)⟩
    refine look (m - 1) 0 (by omega) ?_
    unfold fr_l
    rw [hgc.1]
    dsimp only
    omega
  -- least terms of what is given
  have red : a ≠ 0 → b ≠ 0 → (0 < a ↔ 0 < b) → mv_Run G 190 136 7420 82 [(0, .inr (.inr 88)), (7, .inr (.inl (((a.natAbs / Nat.gcd a.natAbs b.natAbs : Nat) : Int)))), (9, .inr (.inl ((b.natAbs / Nat.gcd a.natAbs b.natAbs : Nat) : Int))), (11, .inl 0)] [] (mh l) M0 (mv_qv (mh l) F) ∧ 0 < Nat.gcd a.natAbs b.natAbs := by
    intro a0 b0 sg
    have g0 : 0 < Nat.gcd a.natAbs b.natAbs := Nat.gcd_pos_of_pos_left _ (by omega)
    have gl : Nat.gcd a.natAbs b.natAbs ≤ a.natAbs := Nat.gcd_le_left _ (by omega)
    have gr : Nat.gcd a.natAbs b.natAbs ≤ b.natAbs := Nat.gcd_le_right _ (by omega)
    have n1 : a.natAbs / Nat.gcd a.natAbs b.natAbs ≤ a.natAbs := Nat.div_le_self _ _
    have n2 : b.natAbs / Nat.gcd a.natAbs b.natAbs ≤ b.natAbs := Nat.div_le_self _ _
    have n3 : 0 < a.natAbs / Nat.gcd a.natAbs b.natAbs := Nat.div_pos gl g0
    have n4 : 0 < b.natAbs / Nat.gcd a.natAbs b.natAbs := Nat.div_pos gr g0
    have cop : Int.gcd ((a.natAbs / Nat.gcd a.natAbs b.natAbs : Nat) : Int) ((b.natAbs / Nat.gcd a.natAbs b.natAbs : Nat) : Int) = 1 := Nat.coprime_div_gcd_div_gcd g0
    have ea : a.natAbs / Nat.gcd a.natAbs b.natAbs * Nat.gcd a.natAbs b.natAbs = a.natAbs := Nat.div_mul_cancel (Nat.gcd_dvd_left _ _)
    have eb : b.natAbs / Nat.gcd a.natAbs b.natAbs * Nat.gcd a.natAbs b.natAbs = b.natAbs := Nat.div_mul_cancel (Nat.gcd_dvd_right _ _)
    refine ⟨core _ _ ?_ ?_ cop (fun x y hx hy z => ?_), g0⟩
    · generalize a.natAbs / Nat.gcd a.natAbs b.natAbs = u at *
      omega
    · generalize b.natAbs / Nat.gcd a.natAbs b.natAbs = u at *
      omega
    · have fe : fr_e (((a.natAbs : Nat) : Int), ((b.natAbs : Nat) : Int)) (x, y) := by
        rcases rg_Z_x hx hy z with w | w
        · rw [show ((a.natAbs : Nat) : Int) = a by omega, show ((b.natAbs : Nat) : Int) = b by omega]
          exact w.2.2
        · rw [show ((a.natAbs : Nat) : Int) = -a by omega, show ((b.natAbs : Nat) : Int) = -b by omega]
          exact w.2.2
      refine fr_ee (y := (((a.natAbs : Nat) : Int), ((b.natAbs : Nat) : Int))) (by dsimp only; omega) ?_ fe
      unfold fr_e
      dsimp only
      have e1 : ((a.natAbs / Nat.gcd a.natAbs b.natAbs * b.natAbs : Nat) : Int) = ((a.natAbs * (b.natAbs / Nat.gcd a.natAbs b.natAbs) : Nat) : Int) := by
        congr 1
        have h1 : a.natAbs / Nat.gcd a.natAbs b.natAbs * (b.natAbs / Nat.gcd a.natAbs b.natAbs * Nat.gcd a.natAbs b.natAbs) = a.natAbs / Nat.gcd a.natAbs b.natAbs * Nat.gcd a.natAbs b.natAbs * (b.natAbs / Nat.gcd a.natAbs b.natAbs) := by
          rw [Nat.mul_comm (b.natAbs / Nat.gcd a.natAbs b.natAbs), Nat.mul_assoc]
        rw [ea, eb] at h1
        exact h1
      rw [Int.natCast_mul, Int.natCast_mul] at e1
      exact e1
  have sgn : ¬ (0 < a ↔ 0 < b) → a ≠ 0 → b ≠ 0 → F M0 := fun hn h1 h2 => none' (fun x y hx hy z => by
    rcases rg_Z_x hx hy z with w | w <;> omega)
  have dv1 : ∀ g : Nat, ((a.natAbs : Nat) : Int).tdiv (g : Int) = ((a.natAbs / g : Nat) : Int) := fun g => by rw [sg_td (by omega)]; rfl
  have dv2 : ∀ g : Nat, ((b.natAbs : Nat) : Int).tdiv (g : Int) = ((b.natAbs / g : Nat) : Int) := fun g => by rw [sg_td (by omega)]; rfl
  have l1 : a.natAbs / Nat.gcd a.natAbs b.natAbs ≤ a.natAbs := Nat.div_le_self _ _
  have l2 : b.natAbs / Nat.gcd a.natAbs b.natAbs ≤ b.natAbs := Nat.div_le_self _ _
  refine vw_X12_marksAt ?_
  simp only [mv_cmp_ge, mv_cmp_eq]
  by_cases b0 : b = 0
  · rw [if_pos b0]
    exact mv_qv_i (none' (fun x y _ _ z => z.1 b0))
  rw [if_neg b0]
  by_cases a0 : a = 0
  · rw [if_pos a0]
    refine mv_qv_i (none' (fun x y hx hy z => ?_))
    rcases rg_Z_x hx hy z with w | w <;> omega
  rw [if_neg a0]
  by_cases a1 : 0 ≤ a
  · rw [if_pos a1]
    by_cases b1 : 0 ≤ b
    · obtain ⟨r, g0⟩ := red a0 b0 (by omega)
      rw [if_pos b1, if_pos trivial]
      refine md_divisor (by omega) (by omega) ?_
      have ea : a = ((a.natAbs : Nat) : Int) := by omega
      have eb : b = ((b.natAbs : Nat) : Int) := by omega
      rw [if_pos a1, if_pos b1]
      have t1 : a.tdiv ((Nat.gcd a.natAbs b.natAbs : Nat) : Int) = ((a.natAbs / Nat.gcd a.natAbs b.natAbs : Nat) : Int) := (congrArg (fun z : Int => z.tdiv ((Nat.gcd a.natAbs b.natAbs : Nat) : Int)) ea).trans (dv1 _)
      have t2 : b.tdiv ((Nat.gcd a.natAbs b.natAbs : Nat) : Int) = ((b.natAbs / Nat.gcd a.natAbs b.natAbs : Nat) : Int) := (congrArg (fun z : Int => z.tdiv ((Nat.gcd a.natAbs b.natAbs : Nat) : Int)) eb).trans (dv2 _)
      rw [t1, t2]
      refine ⟨⟨by omega, ?_⟩, ⟨by omega, ?_⟩, r⟩
      · generalize a.natAbs / Nat.gcd a.natAbs b.natAbs = u at l1 ⊢
        omega
      · generalize b.natAbs / Nat.gcd a.natAbs b.natAbs = u at l2 ⊢
        omega
    · rw [if_neg b1, if_neg (by decide)]
      exact mv_qv_i (sgn (by omega) a0 b0)
  · rw [if_neg a1]
    by_cases b1 : 0 ≤ b
    · rw [if_pos b1, if_neg (by decide)]
      exact mv_qv_i (sgn (by omega) a0 b0)
    · obtain ⟨r, g0⟩ := red a0 b0 (by omega)
      rw [if_neg b1, if_pos trivial]
      refine md_divisor (by omega) (by omega) ?_
      have ea : -a = ((a.natAbs : Nat) : Int) := by omega
      have eb : -b = ((b.natAbs : Nat) : Int) := by omega
      rw [if_neg a1, if_neg b1]
      have t1 : (-a).tdiv ((Nat.gcd a.natAbs b.natAbs : Nat) : Int) = ((a.natAbs / Nat.gcd a.natAbs b.natAbs : Nat) : Int) := (congrArg (fun z : Int => z.tdiv ((Nat.gcd a.natAbs b.natAbs : Nat) : Int)) ea).trans (dv1 _)
      have t2 : (-b).tdiv ((Nat.gcd a.natAbs b.natAbs : Nat) : Int) = ((b.natAbs / Nat.gcd a.natAbs b.natAbs : Nat) : Int) := (congrArg (fun z : Int => z.tdiv ((Nat.gcd a.natAbs b.natAbs : Nat) : Int)) eb).trans (dv2 _)
      rw [t1, t2]
      refine ⟨by omega, ⟨by omega, ?_⟩, by omega, ⟨by omega, ?_⟩, r⟩
      · generalize a.natAbs / Nat.gcd a.natAbs b.natAbs = u at l1 ⊢
        omega
      · generalize b.natAbs / Nat.gcd a.natAbs b.natAbs = u at l2 ⊢
        omega
theorem md_isRinged (hM : sg_Mo S M) {u : Nat} (hu : u < 6) (h1 : rg_R (S 8 u) → F 1 M) (h0 : ¬ rg_R (S 8 u) → F 0 M) : mv_Wp G 191 [.inr (.inr 88), .inl (u : Int)] (mh l) M (mv_qi (mh l) F) := by
  refine vw_X12_isRinged ?_
  have c105 : M 105 u = S 8 u := (hM.2.2.2.2.2.2.1 u hu).1
  rw [Int.toNat_natCast, c105]
  refine ⟨by omega, ?_⟩
  split
  · rename_i z
    exact ⟨by decide, mv_qi_i (h0 (fun y => y.1 z))⟩
  · rename_i z
    refine ⟨by omega, ?_⟩
    split
    · rename_i z2
      exact ⟨by decide, mv_qi_i (h0 (fun y => y.2 z2))⟩
    · rename_i z2
      exact ⟨by decide, mv_qi_i (h1 ⟨z, z2⟩)⟩
theorem md_slope (hw : sg_wf S) (hM : sg_Mo S M) {u : Nat} {s : Int} (hu : u < 6) (hs : 0 ≤ s ∧ s ≤ 9) (h : F (sg_sl S s u) M) : mv_Wp G 192 [.inr (.inr 88), .inl (u : Int), .inl s] (mh l) M (mv_ql (mh l) F) := by
  have hb : 0 ≤ sg_fa S u * sg_yl S u s ∧ sg_fa S u * sg_yl S u s ≤ 98010 := sg_cr_b hw hu hs
  exact vw_X12_slope (md_fareOf hw hM hu (md_yieldOf hw hM hu hs ⟨by omega, mv_ql_i h⟩))
theorem md_worth0 (hw : sg_wf S) (hM : sg_Mo S M) {u : Nat} {s : Int} (hu : u < 6) (hs : 0 ≤ s ∧ s ≤ 9) (h : F (sg_hm S s u) M) : mv_Wp G 168 [.inr (.inr 88), .inl (u : Int), .inl s, .inl 0] (mh l) M (mv_ql (mh l) F) :=
  md_worth hw hM (m := 0) hu (by decide) hs h
end RK
