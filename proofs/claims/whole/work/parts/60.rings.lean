/-! RINGS: cuts are put in, there are some, the run over them is one -/
section RH
variable {h q kd : Nat → Int}
def rg_is (C : Nat → Int × Int) (at' : Nat) (x : Int × Int) : Nat → Int × Int := fun j => if j < at' then C j else if j = at' then x else C (j - 1)
theorem rg_is_ps {C : Nat → Int × Int} {m at' : Nat} {x : Int × Int} (hs : rg_ps C m) (h1 : 1 ≤ at') (h2 : at' ≤ m) (hx : 0 < x.2) (hl : fr_l (C (at' - 1)) x) (hr : at' < m → fr_l x (C at')) : rg_ps (rg_is C at' x) (m + 1) := by
  have e1 : ∀ j, j < at' → rg_is C at' x j = C j := fun j hj => if_pos hj
  have e2 : rg_is C at' x at' = x := by
    unfold rg_is
    rw [if_neg (by omega), if_pos rfl]
  have e3 : ∀ j, at' < j → rg_is C at' x j = C (j - 1) := fun j hj => by
    unfold rg_is
    rw [if_neg (by omega), if_neg (by omega)]
  refine ⟨by omega, ?_, fun i hi => ?_, fun i hi => ?_⟩
  · rw [e1 0 (by omega)]
    exact hs.2.1
  · rcases Nat.lt_trichotomy i at' with c | c | c
    · rw [e1 i c]
      exact hs.2.2.1 i (by omega)
    · rw [c, e2]
      exact hx
    · rw [e3 i c]
      exact hs.2.2.1 (i - 1) (by omega)
  · rcases Nat.lt_trichotomy (i + 1) at' with c | c | c
    · rw [e1 i (by omega), e1 (i + 1) c]
      exact hs.2.2.2 i (by omega)
    · rw [e1 i (by omega), c, e2]
      rw [← c, Nat.add_sub_cancel] at hl
      exact hl
    · by_cases d : i = at'
      · rw [d, e2, e3 (at' + 1) (by omega), Nat.add_sub_cancel]
        exact hr (by omega)
      · rw [e3 i (by omega), e3 (i + 1) c, Nat.add_sub_cancel]
        have := hs.2.2.2 (i - 1) (by omega)
        rw [show i - 1 + 1 = i by omega] at this
        exact this
theorem fr_ee {x y z : Int × Int} (hy : 0 < y.2) (h1 : fr_e x y) (h2 : fr_e y z) : fr_e x z := by
  unfold fr_e at *
  have e : x.1 * z.2 * y.2 = z.1 * x.2 * y.2 := by
    rw [Int.mul_right_comm, h1, Int.mul_right_comm, h2, Int.mul_right_comm]
  exact Int.eq_of_mul_eq_mul_right (by omega) e
theorem rg_cn_add {Q Q' : Int → Int → Prop} {C : Nat → Int × Int} {m at' : Nat} {x : Int × Int} (hc : rg_cn Q C m) (ha : at' ≤ m) (hq : ∀ a b, 0 < a → 0 < b → Q' a b → Q a b ∨ fr_e x (a, b)) : rg_cn Q' (rg_is C at' x) (m + 1) := by
  intro a b h1 h2 h3
  rcases hq a b h1 h2 h3 with c | c
  · obtain ⟨i, i1, i2⟩ := hc a b h1 h2 c
    by_cases d : i < at'
    · refine ⟨i, by omega, ?_⟩
      unfold rg_is
      rw [if_pos d]
      exact i2
    · refine ⟨i + 1, by omega, ?_⟩
      unfold rg_is
      rw [if_neg (by omega), if_neg (by omega), Nat.add_sub_cancel]
      exact i2
  · refine ⟨at', by omega, ?_⟩
    unfold rg_is
    rw [if_neg (by omega), if_pos rfl]
    exact c
theorem rg_cn_in {Q Q' : Int → Int → Prop} {C : Nat → Int × Int} {m i : Nat} {x : Int × Int} (hc : rg_cn Q C m) (hx : 0 < x.2) (hi : i < m) (he : fr_e (C i) x) (hq : ∀ a b, 0 < a → 0 < b → Q' a b → Q a b ∨ fr_e x (a, b)) : rg_cn Q' C m := by
  intro a b h1 h2 h3
  rcases hq a b h1 h2 h3 with c | c
  · exact hc a b h1 h2 c
  · exact ⟨i, hi, fr_ee hx he c⟩
theorem rg_cn_mo {Q Q' : Int → Int → Prop} {C : Nat → Int × Int} {m : Nat} (hc : rg_cn Q C m) (hq : ∀ a b, 0 < a → 0 < b → Q' a b → Q a b) : rg_cn Q' C m := fun a b h1 h2 h3 => hc a b h1 h2 (hq a b h1 h2 h3)
theorem rg_ex_add {Q Q' : Int → Int → Prop} {C : Nat → Int × Int} {m at' : Nat} {x : Int × Int} (hc : rg_ex Q C m) (h1 : 1 ≤ at') (ha : at' ≤ m) (hq : ∀ a b, Q a b → Q' a b) (hx : Q' x.1 x.2) : rg_ex Q' (rg_is C at' x) (m + 1) := by
  intro i i1 i2
  unfold rg_is
  rcases Nat.lt_trichotomy i at' with c | c | c
  · rw [if_pos c]
    exact hq _ _ (hc i i1 (by omega))
  · rw [if_neg (by omega), if_pos c]
    exact hx
  · rw [if_neg (by omega), if_neg (by omega)]
    exact hq _ _ (hc (i - 1) (by omega) (by omega))
theorem rg_at {C : Nat → Int × Int} {m : Nat} {x : Int × Int} (hs : rg_ps C m) (hx : 0 < x.1) (hno : ∀ i, i < m → ¬ fr_e (C i) x) : ∃ at', 1 ≤ at' ∧ at' ≤ m ∧ fr_l (C (at' - 1)) x ∧ (at' < m → fr_l x (C at')) := by
  have key : ∀ k, k + 1 ≤ m → ∃ at', 1 ≤ at' ∧ at' ≤ k + 1 ∧ fr_l (C (at' - 1)) x ∧ (at' < k + 1 → fr_l x (C at')) := by
    intro k
    induction k with
    | zero =>
      intro h0
      refine ⟨1, by omega, by omega, ?_, fun c => by omega⟩
      show (C 0).1 * x.2 < x.1 * (C 0).2
      rw [hs.2.1, Int.zero_mul]
      exact Int.mul_pos hx (hs.2.2.1 0 hs.1)
    | succ k ih =>
      intro h0
      obtain ⟨a, a1, a2, a3, a4⟩ := ih (by omega)
      by_cases c : a < k + 1
      · exact ⟨a, a1, by omega, a3, fun _ => a4 c⟩
      · have ea : a = k + 1 := by omega
        subst ea
        by_cases d : fr_l (C (k + 1)) x
        · exact ⟨k + 2, by omega, by omega, d, fun z => by omega⟩
        · refine ⟨k + 1, by omega, by omega, a3, fun _ => ?_⟩
          have e := hno (k + 1) (by omega)
          unfold fr_l at d ⊢
          unfold fr_e at e
          omega
  have hm := hs.1
  obtain ⟨a, a1, a2, a3, a4⟩ := key (m - 1) (by omega)
  exact ⟨a, a1, by omega, a3, fun c => a4 (by omega)⟩
def rg_Z (D S a b : Int) : Prop := S ≠ 0 ∧ D * b = S * a
theorem rg_Z_x {D S a b : Int} (ha : 0 < a) (hb : 0 < b) (hz : rg_Z D S a b) : (0 < D ∧ 0 < S ∧ fr_e (D, S) (a, b)) ∨ (D < 0 ∧ S < 0 ∧ fr_e (-D, -S) (a, b)) := by
  obtain ⟨h1, h2⟩ := hz
  unfold fr_e
  dsimp only
  rcases Int.lt_trichotomy S 0 with c | c | c
  · right
    have : S * a < 0 := Int.mul_neg_of_neg_of_pos c ha
    have hD : D < 0 := by
      refine Classical.byContradiction (fun n => ?_)
      have : 0 ≤ D * b := Int.mul_nonneg (by omega) (Int.le_of_lt hb)
      omega
    refine ⟨hD, c, ?_⟩
    rw [Int.neg_mul, Int.mul_neg, h2, Int.mul_comm]
  · exact absurd c h1
  · left
    have : 0 < S * a := Int.mul_pos c ha
    have hD : 0 < D := by
      refine Classical.byContradiction (fun n => ?_)
      have : D * b ≤ 0 := Int.mul_nonpos_of_nonpos_of_nonneg (by omega) (Int.le_of_lt hb)
      omega
    exact ⟨hD, c, by rw [h2, Int.mul_comm]⟩
theorem rg_step {Q : Int → Int → Prop} {C : Nat → Int × Int} {m : Nat} {D S : Int} (hs : rg_ps C m) (hc : rg_cn Q C m) (he : rg_ex Q C m) : ∃ C' m', rg_ps C' m' ∧ rg_cn (fun a b => Q a b ∨ rg_Z D S a b) C' m' ∧ rg_ex (fun a b => Q a b ∨ rg_Z D S a b) C' m' := by
  have main : ∀ x : Int × Int, 0 < x.1 → 0 < x.2 → rg_Z D S x.1 x.2 → (∀ a b, 0 < a → 0 < b → rg_Z D S a b → fr_e x (a, b)) → ∃ C' m', rg_ps C' m' ∧ rg_cn (fun a b => Q a b ∨ rg_Z D S a b) C' m' ∧ rg_ex (fun a b => Q a b ∨ rg_Z D S a b) C' m' := by
    intro x x1 x2 x3 x4
    by_cases c : ∃ i, i < m ∧ fr_e (C i) x
    · obtain ⟨i, i1, i2⟩ := c
      refine ⟨C, m, hs, rg_cn_in hc x2 i1 i2 (fun a b ha hb hq => ?_), fun j j1 j2 => Or.inl (he j j1 j2)⟩
      rcases hq with hq | hq
      · exact Or.inl hq
      · exact Or.inr (x4 a b ha hb hq)
    · obtain ⟨k, k1, k2, k3, k4⟩ := rg_at hs x1 (fun i hi z => c ⟨i, hi, z⟩)
      refine ⟨rg_is C k x, m + 1, rg_is_ps hs k1 k2 x2 k3 k4, rg_cn_add hc k2 (fun a b ha hb hq => ?_), rg_ex_add he k1 k2 (fun a b hq => Or.inl hq) (Or.inr x3)⟩
      rcases hq with hq | hq
      · exact Or.inl hq
      · exact Or.inr (x4 a b ha hb hq)
  by_cases c1 : 0 < D ∧ 0 < S
  · refine main (D, S) c1.1 c1.2 ⟨by have := c1.2; omega, Int.mul_comm _ _⟩ (fun a b ha hb hz => ?_)
    rcases rg_Z_x ha hb hz with z | z
    · exact z.2.2
    · omega
  · by_cases c2 : D < 0 ∧ S < 0
    · refine main (-D, -S) (by have := c2.1; dsimp only; omega) (by have := c2.2; dsimp only; omega) ⟨by have := c2.2; omega, by rw [Int.mul_neg, Int.mul_neg, Int.mul_comm]⟩ (fun a b ha hb hz => ?_)
      rcases rg_Z_x ha hb hz with z | z
      · omega
      · exact z.2.2
    · refine ⟨C, m, hs, rg_cn_mo hc (fun a b ha hb hq => ?_), fun j j1 j2 => Or.inl (he j j1 j2)⟩
      rcases hq with hq | hq
      · exact hq
      · rcases rg_Z_x ha hb hq with z | z
        · exact absurd ⟨z.1, z.2.1⟩ c1
        · exact absurd ⟨z.1, z.2.1⟩ c2
/-- the marks of the uses below n, of n itself, of n with those below v -/
def rg_Pm (h q kd : Nat → Int) (n v : Nat) (a b : Int) : Prop := (rg_P h q kd n a b ∨ (rg_R (kd n) ∧ rg_Z (h n) (q n) a b)) ∨ ∃ w, w < v ∧ rg_R (kd n) ∧ rg_R (kd w) ∧ rg_Z (h n - h w) (q n - q w) a b
theorem rg_Pm_n {n : Nat} {a b : Int} : rg_P h q kd (n + 1) a b ↔ rg_Pm h q kd n n a b := by
  unfold rg_Pm rg_P rg_Z
  constructor
  · rintro (c | ⟨u, u1, u2, u3, u4⟩ | ⟨u, v, u1, u2, u3, u4, u5, u6⟩)
    · exact Or.inl (Or.inl (Or.inl c))
    · by_cases e : u = n
      · subst e
        exact Or.inl (Or.inr ⟨u2, u3, u4⟩)
      · exact Or.inl (Or.inl (Or.inr (Or.inl ⟨u, by omega, u2, u3, u4⟩)))
    · by_cases e : u = n
      · subst e
        exact Or.inr ⟨v, u1, u3, u4, u5, u6⟩
      · exact Or.inl (Or.inl (Or.inr (Or.inr ⟨u, v, u1, by omega, u3, u4, u5, u6⟩)))
  · rintro (((c | ⟨u, u1, u2, u3, u4⟩ | ⟨u, v, u1, u2, u3, u4, u5, u6⟩) | ⟨u2, u3, u4⟩) | ⟨w, w1, w2, w3, w4, w5⟩)
    · exact Or.inl c
    · exact Or.inr (Or.inl ⟨u, by omega, u2, u3, u4⟩)
    · exact Or.inr (Or.inr ⟨u, v, u1, by omega, u3, u4, u5, u6⟩)
    · exact Or.inr (Or.inl ⟨n, by omega, u2, u3, u4⟩)
    · exact Or.inr (Or.inr ⟨n, w, w1, by omega, w2, w3, w4, w5⟩)
theorem rg_exi (n : Nat) : ∃ C m, rg_ps C m ∧ rg_cn (rg_P h q kd n) C m ∧ rg_ex (rg_P h q kd n) C m := by
  induction n with
  | zero =>
    refine ⟨fun i => if i = 0 then (0, 1) else (60, 1), 2, ⟨by decide, rfl, fun i hi => ?_, fun i hi => ?_⟩, fun a b ha hb hq => ?_, fun i i1 i2 => ?_⟩
    · show 0 < (if i = 0 then ((0 : Int), (1 : Int)) else (60, 1)).2
      split <;> decide
    · have e : i = 0 := by omega
      subst e
      show (0 : Int) * 1 < 60 * 1
      decide
    · rcases hq with c | ⟨u, u1, -⟩ | ⟨u, v, u1, u2, -⟩
      · refine ⟨1, by decide, ?_⟩
        show (60 : Int) * b = a * 1
        omega
      · omega
      · omega
    · have e : i = 1 := by omega
      subst e
      exact Or.inl rfl
  | succ n ih =>
    obtain ⟨C, m, h1, h2, h3⟩ := ih
    have key : ∀ v, ∃ C m, rg_ps C m ∧ rg_cn (rg_Pm h q kd n v) C m ∧ rg_ex (rg_Pm h q kd n v) C m := by
      intro v
      induction v with
      | zero =>
        by_cases hr : rg_R (kd n)
        · obtain ⟨C', m', k1, k2, k3⟩ := rg_step (D := h n) (S := q n) h1 h2 h3
          refine ⟨C', m', k1, rg_cn_mo k2 (fun a b _ _ hq => ?_), fun i i1 i2 => ?_⟩
          · rcases hq with (c | c) | ⟨w, w1, -⟩
            · exact Or.inl c
            · exact Or.inr c.2
            · omega
          · rcases k3 i i1 i2 with c | c
            · exact Or.inl (Or.inl c)
            · exact Or.inl (Or.inr ⟨hr, c⟩)
        · refine ⟨C, m, h1, rg_cn_mo h2 (fun a b _ _ hq => ?_), fun i i1 i2 => Or.inl (Or.inl (h3 i i1 i2))⟩
          rcases hq with (c | c) | ⟨w, w1, -⟩
          · exact c
          · exact absurd c.1 hr
          · omega
      | succ v ihv =>
        obtain ⟨C, m, j1, j2, j3⟩ := ihv
        by_cases hr : rg_R (kd n) ∧ rg_R (kd v)
        · obtain ⟨C', m', k1, k2, k3⟩ := rg_step (D := h n - h v) (S := q n - q v) j1 j2 j3
          refine ⟨C', m', k1, rg_cn_mo k2 (fun a b _ _ hq => ?_), fun i i1 i2 => ?_⟩
          · rcases hq with c | ⟨w, w1, w2, w3, w4⟩
            · exact Or.inl (Or.inl c)
            · by_cases e : w = v
              · subst e
                exact Or.inr w4
              · exact Or.inl (Or.inr ⟨w, by omega, w2, w3, w4⟩)
          · rcases k3 i i1 i2 with (c | ⟨w, w1, w2⟩) | c
            · exact Or.inl c
            · exact Or.inr ⟨w, by omega, w2⟩
            · exact Or.inr ⟨v, by omega, hr.1, hr.2, c⟩
        · refine ⟨C, m, j1, rg_cn_mo j2 (fun a b _ _ hq => ?_), fun i i1 i2 => ?_⟩
          · rcases hq with c | ⟨w, w1, w2, w3, w4⟩
            · exact Or.inl c
            · by_cases e : w = v
              · subst e
                exact absurd ⟨w2, w3⟩ hr
              · exact Or.inr ⟨w, by omega, w2, w3, w4⟩
          · rcases j3 i i1 i2 with c | ⟨w, w1, w2⟩
            · exact Or.inl c
            · exact Or.inr ⟨w, by omega, w2⟩
    obtain ⟨C', m', k1, k2, k3⟩ := key n
    exact ⟨C', m', k1, rg_cn_mo k2 (fun a b _ _ hq => rg_Pm_n.1 hq), fun i i1 i2 => rg_Pm_n.2 (k3 i i1 i2)⟩
/-! the run over cuts -/
def rg_e1 (C : Nat → Int × Int) (m i : Nat) : Int × Int := if i + 1 < m then rg_rd (C (i + 1)) else (-9, 1)
def rg_md (C : Nat → Int × Int) (m i : Nat) : Int × Int := if i + 1 < m then ((C i).1 + (C (i + 1)).1, (C i).2 + (C (i + 1)).2) else ((C i).1 + (C i).2, (C i).2)
theorem rg_md_in {C : Nat → Int × Int} {m i : Nat} (hs : rg_ps C m) (hi : i < m) : rg_in C m i (rg_md C m i) := by
  have h1 := hs.2.2.1 i hi
  unfold rg_md
  by_cases c : i + 1 < m
  · rw [if_pos c]
    have h2 := hs.2.2.1 (i + 1) c
    have h3 := hs.2.2.2 i c
    unfold fr_l at h3
    refine ⟨by dsimp only; omega, ?_, fun _ => ?_⟩
    · show (C i).1 * ((C i).2 + (C (i + 1)).2) < ((C i).1 + (C (i + 1)).1) * (C i).2
      rw [Int.mul_add, Int.add_mul]
      omega
    · show ((C i).1 + (C (i + 1)).1) * (C (i + 1)).2 < (C (i + 1)).1 * ((C i).2 + (C (i + 1)).2)
      rw [Int.mul_add, Int.add_mul]
      omega
  · rw [if_neg c]
    refine ⟨h1, ?_, fun z => absurd z c⟩
    show (C i).1 * (C i).2 < ((C i).1 + (C i).2) * (C i).2
    rw [Int.add_mul]
    have := Int.mul_pos h1 h1
    omega
def rg_fin (h q kd : Nat → Int) (n : Nat) (C : Nat → Int × Int) (m : Nat) : Int × Nat × (Nat → Int × Int × Int) := rg_run (fun i => (rg_t h q kd (rg_md C m i).1 (rg_md C m i).2 n).1) (rg_e1 C m) m
theorem rg_fin_u {n m m' : Nat} {C K : Nat → Int × Int} (hC : rg_ps C m) (cC : rg_cn (rg_P h q kd n) C m) (hK : rg_ps K m') (cK : rg_cn (rg_P h q kd n) K m') (eK : rg_ex (rg_P h q kd n) K m') : rg_fin h q kd n C m = rg_fin h q kd n K m' := by
  have hm := hC.1
  have hm' := hK.1
  obtain ⟨k, rfl⟩ : ∃ k, m' = k + 1 := ⟨m' - 1, by omega⟩
  refine rg_sim hC hK (fun p p1 p2 => ?_) (fun i p i1 p1 hl hr => ?_) (fun i p i1 p1 he => ?_) ?_
  · exact cC _ _ (rg_ps_0 hK (by omega) (by omega)) (hK.2.2.1 p (by omega)) (eK p p1 (by omega))
  · have hx := rg_md_in hC i1
    refine rg_T hK cK (i := p) (by omega) (x := rg_md C m i) (z := rg_md K (k + 1) p) ⟨hx.1, ?_, fun hp => (hr (by omega)).2 _ hx⟩ (rg_md_in hK (by omega))
    rcases hl with hl | hl
    · exact fr_lelt (hK.2.2.1 p (by omega)) (hC.2.2.1 i i1) hx.1 (Int.le_of_eq hl.symm) hx.2.1
    · exact fr_lt (hK.2.2.1 p (by omega)) (hC.2.2.1 i i1) hx.1 hl hx.2.1
  · unfold rg_e1
    rw [if_pos i1, if_pos (by omega)]
    exact rg_rd_e (hC.2.2.1 _ i1) (hK.2.2.1 _ (by omega)) he
  · unfold rg_e1
    rw [if_neg (by omega), if_neg (by omega)]
/-- THE RINGS: the last taker, how many, each with its use and its end -/
noncomputable def rg_S (h q kd : Nat → Int) (n : Nat) : Int × Nat × (Nat → Int × Int × Int) := rg_fin h q kd n (Classical.choose (rg_exi (h := h) (q := q) (kd := kd) n)) (Classical.choose (Classical.choose_spec (rg_exi (h := h) (q := q) (kd := kd) n)))
theorem rg_S_e {n m : Nat} {C : Nat → Int × Int} (hC : rg_ps C m) (cC : rg_cn (rg_P h q kd n) C m) : rg_fin h q kd n C m = rg_S h q kd n := by
  have hh := Classical.choose_spec (Classical.choose_spec (rg_exi (h := h) (q := q) (kd := kd) n))
  exact rg_fin_u hC cC hh.1 hh.2.1 hh.2.2
end RH
