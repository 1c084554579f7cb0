/-! RINGS, IN NUMBERS: fractions, the taker along the line, cuts, the run over them -/
def fr_l (x y : Int × Int) : Prop := x.1 * y.2 < y.1 * x.2
def fr_e (x y : Int × Int) : Prop := x.1 * y.2 = y.1 * x.2
theorem fr_lt {a b c d e f : Int} (hb : 0 < b) (hd : 0 < d) (hf : 0 < f) (h1 : a * d < c * b) (h2 : c * f < e * d) : a * f < e * b := by
  have e1 : a * d * f < c * b * f := Int.mul_lt_mul_of_pos_right h1 hf
  have e2 : c * f * b < e * d * b := Int.mul_lt_mul_of_pos_right h2 hb
  rw [Int.mul_right_comm a d f, Int.mul_right_comm c b f] at e1
  rw [Int.mul_right_comm e d b] at e2
  exact Int.lt_of_mul_lt_mul_right (Int.lt_trans e1 e2) (Int.le_of_lt hd)
theorem fr_le {a b c d e f : Int} (hb : 0 < b) (hd : 0 < d) (hf : 0 < f) (h1 : a * d ≤ c * b) (h2 : c * f ≤ e * d) : a * f ≤ e * b := by
  have e1 : a * d * f ≤ c * b * f := Int.mul_le_mul_of_nonneg_right h1 (Int.le_of_lt hf)
  have e2 : c * f * b ≤ e * d * b := Int.mul_le_mul_of_nonneg_right h2 (Int.le_of_lt hb)
  rw [Int.mul_right_comm a d f, Int.mul_right_comm c b f] at e1
  rw [Int.mul_right_comm e d b] at e2
  exact Int.le_of_mul_le_mul_right (Int.le_trans e1 e2) hd
theorem fr_ltle {a b c d e f : Int} (hb : 0 < b) (hd : 0 < d) (hf : 0 < f) (h1 : a * d < c * b) (h2 : c * f ≤ e * d) : a * f < e * b := by
  have e1 : a * d * f < c * b * f := Int.mul_lt_mul_of_pos_right h1 hf
  have e2 : c * f * b ≤ e * d * b := Int.mul_le_mul_of_nonneg_right h2 (Int.le_of_lt hb)
  rw [Int.mul_right_comm a d f, Int.mul_right_comm c b f] at e1
  rw [Int.mul_right_comm e d b] at e2
  exact Int.lt_of_mul_lt_mul_right (Int.lt_of_lt_of_le e1 e2) (Int.le_of_lt hd)
theorem fr_lelt {a b c d e f : Int} (hb : 0 < b) (hd : 0 < d) (hf : 0 < f) (h1 : a * d ≤ c * b) (h2 : c * f < e * d) : a * f < e * b := by
  have e1 : a * d * f ≤ c * b * f := Int.mul_le_mul_of_nonneg_right h1 (Int.le_of_lt hf)
  have e2 : c * f * b < e * d * b := Int.mul_lt_mul_of_pos_right h2 hb
  rw [Int.mul_right_comm a d f, Int.mul_right_comm c b f] at e1
  rw [Int.mul_right_comm e d b] at e2
  exact Int.lt_of_mul_lt_mul_right (Int.lt_of_le_of_lt e1 e2) (Int.le_of_lt hd)
/-- a linear form has its sign, above 0 or not, at both of two places with no 0 of it from the one to the other -/
theorem rg_form {D S x y z w : Int} (hx : 0 < x) (hy : 0 < y) (hw : 0 < w) (h : x * w ≤ z * y) (hno : ∀ a b, 0 < a → 0 < b → D * b = S * a → S ≠ 0 → ¬ (x * b ≤ a * y ∧ a * w ≤ z * b)) : S * x < D * y ↔ S * z < D * w := by
  rcases Int.lt_trichotomy S 0 with hS | hS | hS
  · have hS' : 0 < -S := by omega
    constructor
    · intro q
      -- (-D) / (-S) < x / y <= z / w
      have h1 : (-D) * y < x * (-S) := by rw [Int.neg_mul, Int.mul_neg, Int.mul_comm x S]; omega
      have h2 := fr_ltle (a := -D) (b := -S) (c := x) (d := y) (e := z) (f := w) hS' hy hw h1 h
      rw [Int.neg_mul, Int.mul_neg, Int.mul_comm z S] at h2
      omega
    · intro q
      refine Classical.byContradiction (fun n => ?_)
      have h1 : x * (-S) ≤ (-D) * y := by rw [Int.neg_mul, Int.mul_neg, Int.mul_comm x S]; omega
      have h2 : (-D) * w ≤ z * (-S) := by rw [Int.neg_mul, Int.mul_neg, Int.mul_comm z S]; omega
      have h3 : 0 < x * (-S) := Int.mul_pos hx hS'
      have hD : 0 < -D := by
        refine Classical.byContradiction (fun m => ?_)
        have : (-D) * y ≤ 0 := Int.mul_nonpos_of_nonpos_of_nonneg (by omega) (Int.le_of_lt hy)
        omega
      exact hno (-D) (-S) hD hS' (by rw [Int.mul_neg, Int.mul_neg, Int.mul_comm]) (by omega) ⟨h1, h2⟩
  · subst hS
    rw [Int.zero_mul, Int.zero_mul]
    have key : ∀ v : Int, 0 < v → (0 < D * v ↔ 0 < D) := fun v hv => ⟨fun q => by
      refine Classical.byContradiction (fun m => ?_)
      have : D * v ≤ 0 := Int.mul_nonpos_of_nonpos_of_nonneg (by omega) (Int.le_of_lt hv)
      omega, fun q => Int.mul_pos q hv⟩
    rw [key y hy, key w hw]
  · constructor
    · intro q
      refine Classical.byContradiction (fun n => ?_)
      have h1 : x * S ≤ D * y := by rw [Int.mul_comm]; omega
      have h2 : D * w ≤ z * S := by rw [Int.mul_comm z]; omega
      have h3 : 0 < S * x := Int.mul_pos hS hx
      have hD : 0 < D := by
        refine Classical.byContradiction (fun m => ?_)
        have : D * y ≤ 0 := Int.mul_nonpos_of_nonpos_of_nonneg (by omega) (Int.le_of_lt hy)
        omega
      exact hno D S hD hS (Int.mul_comm _ _) (by omega) ⟨h1, h2⟩
    · intro q
      have h1 : z * S < D * w := by rw [Int.mul_comm]; omega
      have h2 := fr_lelt (a := x) (b := y) (c := z) (d := w) (e := D) (f := S) hy hw hS h h1
      rw [Int.mul_comm] at h2
      exact h2
abbrev rg_R (k : Int) : Prop := k ≠ 5 ∧ k ≠ 4
abbrev rg_ok (k x y : Int) : Prop := rg_R k ∧ (k = 2 → x ≤ 60 * y)
section RG
variable {h q kd : Nat → Int}
/-- the use with the greatest value above 0 at a way x / y, and y times the value -/
def rg_t (h q kd : Nat → Int) (x y : Int) : Nat → Int × Int
  | 0 => (-1, 0)
  | u + 1 => if (rg_t h q kd x y u).2 < h u * y - q u * x ∧ rg_ok (kd u) x y then ((u : Int), h u * y - q u * x) else rg_t h q kd x y u
theorem rg_t_c (x y : Int) : ∀ u, rg_t h q kd x y u = (-1, 0) ∨ ∃ b : Nat, b < u ∧ rg_R (kd b) ∧ rg_t h q kd x y u = ((b : Int), h b * y - q b * x) ∧ 0 < h b * y - q b * x
  | 0 => Or.inl rfl
  | u + 1 => by
    unfold rg_t
    have ih := rg_t_c x y u
    split
    · rename_i c
      refine Or.inr ⟨u, by omega, c.2.1, rfl, ?_⟩
      rcases ih with z | ⟨b, -, -, z, z2⟩
      · rw [z] at c
        exact c.1
      · rw [z] at c
        have := c.1
        dsimp only at this
        omega
    · rcases ih with z | ⟨b, z0, z1, z, z2⟩
      · exact Or.inl z
      · exact Or.inr ⟨b, by omega, z1, z, z2⟩
theorem rg_ok_sc {k x y g : Int} (hg : 0 < g) : rg_ok k (x * g) (y * g) ↔ rg_ok k x y := by
  unfold rg_ok
  have e : x * g ≤ 60 * (y * g) ↔ x ≤ 60 * y := by
    rw [← Int.mul_assoc]
    exact ⟨fun z => Int.le_of_mul_le_mul_right z hg, fun z => Int.mul_le_mul_of_nonneg_right z (Int.le_of_lt hg)⟩
  rw [e]
theorem rg_t_sc {x y g : Int} (hg : 0 < g) : ∀ u, rg_t h q kd (x * g) (y * g) u = ((rg_t h q kd x y u).1, (rg_t h q kd x y u).2 * g)
  | 0 => by
    show ((-1 : Int), (0 : Int)) = (-1, 0 * g)
    rw [Int.zero_mul]
  | u + 1 => by
    unfold rg_t
    rw [rg_t_sc hg u]
    have e : h u * (y * g) - q u * (x * g) = (h u * y - q u * x) * g := by rw [Int.sub_mul, Int.mul_assoc, Int.mul_assoc]
    rw [e]
    have e2 : (rg_t h q kd x y u).2 * g < (h u * y - q u * x) * g ↔ (rg_t h q kd x y u).2 < h u * y - q u * x := ⟨fun z => Int.lt_of_mul_lt_mul_right z (Int.le_of_lt hg), fun z => Int.mul_lt_mul_of_pos_right z hg⟩
    by_cases c : (rg_t h q kd x y u).2 < h u * y - q u * x ∧ rg_ok (kd u) x y
    · rw [if_pos c, if_pos ⟨e2.2 c.1, (rg_ok_sc hg).2 c.2⟩]
    · rw [if_neg c, if_neg (fun z => c ⟨e2.1 z.1, (rg_ok_sc hg).1 z.2⟩)]
/-- a / b is a place where parts may meet -/
def rg_P (h q kd : Nat → Int) (n : Nat) (a b : Int) : Prop := a = 60 * b ∨ (∃ u, u < n ∧ rg_R (kd u) ∧ q u ≠ 0 ∧ h u * b = q u * a) ∨ ∃ u v, v < u ∧ u < n ∧ rg_R (kd u) ∧ rg_R (kd v) ∧ q u - q v ≠ 0 ∧ (h u - h v) * b = (q u - q v) * a
theorem rg_t_le {n : Nat} {x y z w : Int} (hx : 0 < x) (hy : 0 < y) (hw : 0 < w) (hxz : x * w ≤ z * y) (hno : ∀ a b, 0 < a → 0 < b → rg_P h q kd n a b → ¬ (x * b ≤ a * y ∧ a * w ≤ z * b)) : ∀ u, u ≤ n → (rg_t h q kd x y u).1 = (rg_t h q kd z w u).1
  | 0, _ => rfl
  | u + 1, hu => by
    have ih := rg_t_le hx hy hw hxz hno u (by omega)
    have hok : rg_ok (kd u) x y ↔ rg_ok (kd u) z w := by
      unfold rg_ok
      have e : x ≤ 60 * y ↔ z ≤ 60 * w := by
        constructor
        · intro c
          refine Classical.byContradiction (fun m => ?_)
          exact hno 60 1 (by decide) (by decide) (Or.inl rfl) ⟨by omega, by omega⟩
        · intro c
          have h1 : z * 1 ≤ 60 * w := by omega
          have := fr_le (a := x) (b := y) (c := z) (d := w) (e := 60) (f := 1) hy hw (by decide) hxz h1
          omega
      rw [e]
    have step : rg_R (kd u) → ((rg_t h q kd x y u).2 < h u * y - q u * x ↔ (rg_t h q kd z w u).2 < h u * w - q u * z) := by
      intro hr
      rcases rg_t_c (h := h) (q := q) (kd := kd) x y u with c | ⟨b, b1, b2, c, c2⟩
      · rcases rg_t_c (h := h) (q := q) (kd := kd) z w u with d | ⟨b', -, -, d, -⟩
        · rw [c, d]
          have f := rg_form (D := h u) (S := q u) hx hy hw hxz (fun a b' ha hb he hs => hno a b' ha hb (Or.inr (Or.inl ⟨u, by omega, hr, hs, he⟩)))
          dsimp only
          omega
        · rw [c, d] at ih
          dsimp only at ih
          omega
      · rcases rg_t_c (h := h) (q := q) (kd := kd) z w u with d | ⟨b', -, -, d, -⟩
        · rw [c, d] at ih
          dsimp only at ih
          omega
        · rw [c, d] at ih
          have eb : b' = b := by
            have : (b : Int) = b' := ih
            omega
          subst eb
          rw [c, d]
          have f := rg_form (D := h u - h b') (S := q u - q b') hx hy hw hxz (fun a b'' ha hb he hs => hno a b'' ha hb (Or.inr (Or.inr ⟨u, b', b1, by omega, hr, b2, hs, he⟩)))
          rw [Int.sub_mul, Int.sub_mul, Int.sub_mul, Int.sub_mul] at f
          dsimp only
          omega
    unfold rg_t
    by_cases c : (rg_t h q kd x y u).2 < h u * y - q u * x ∧ rg_ok (kd u) x y
    · rw [if_pos c, if_pos ⟨(step c.2.1).1 c.1, hok.1 c.2⟩]
    · rw [if_neg c, if_neg (fun m => c ⟨(step m.2.1).2 m.1, hok.2 m.2⟩)]
      exact ih
/-! cuts -/
def rg_ps (C : Nat → Int × Int) (m : Nat) : Prop := 0 < m ∧ (C 0).1 = 0 ∧ (∀ i, i < m → 0 < (C i).2) ∧ ∀ i, i + 1 < m → fr_l (C i) (C (i + 1))
def rg_cn (Q : Int → Int → Prop) (C : Nat → Int × Int) (m : Nat) : Prop := ∀ a b, 0 < a → 0 < b → Q a b → ∃ i, i < m ∧ fr_e (C i) (a, b)
def rg_ex (Q : Int → Int → Prop) (C : Nat → Int × Int) (m : Nat) : Prop := ∀ i, 1 ≤ i → i < m → Q (C i).1 (C i).2
theorem rg_ps_l {C : Nat → Int × Int} {m : Nat} (hs : rg_ps C m) {i : Nat} : ∀ {j}, i < j → j < m → fr_l (C i) (C j) := by
  intro j
  induction j with
  | zero => intro h1; omega
  | succ j ih =>
    intro h1 h2
    by_cases e : i = j
    · rw [e]
      exact hs.2.2.2 j h2
    · exact fr_lt (hs.2.2.1 i (by omega)) (hs.2.2.1 j (by omega)) (hs.2.2.1 (j + 1) h2) (ih (by omega) (by omega)) (hs.2.2.2 j h2)
theorem rg_ps_0 {C : Nat → Int × Int} {m : Nat} (hs : rg_ps C m) {i : Nat} (h1 : 0 < i) (h2 : i < m) : 0 < (C i).1 := by
  have h3 := rg_ps_l hs h1 h2
  unfold fr_l at h3
  rw [hs.2.1, Int.zero_mul] at h3
  have h4 := hs.2.2.1 0 hs.1
  refine Classical.byContradiction (fun n => ?_)
  have : (C i).1 * (C 0).2 ≤ 0 := Int.mul_nonpos_of_nonpos_of_nonneg (by omega) (Int.le_of_lt h4)
  omega
/-- a place inside the part behind the cut i -/
def rg_in (C : Nat → Int × Int) (m i : Nat) (x : Int × Int) : Prop := 0 < x.2 ∧ fr_l (C i) x ∧ (i + 1 < m → fr_l x (C (i + 1)))
theorem rg_in_0 {C : Nat → Int × Int} {m i : Nat} (hs : rg_ps C m) (hi : i < m) {x : Int × Int} (hx : rg_in C m i x) : 0 < x.1 := by
  have h1 := hx.2.1
  unfold fr_l at h1
  have h0 : 0 ≤ (C i).1 := by
    by_cases z : i = 0
    · rw [z, hs.2.1]
      omega
    · have := rg_ps_0 hs (i := i) (by omega) hi
      omega
  have h2 : 0 ≤ (C i).1 * x.2 := Int.mul_nonneg h0 (Int.le_of_lt hx.1)
  have h3 := hs.2.2.1 i hi
  refine Classical.byContradiction (fun n => ?_)
  have : x.1 * (C i).2 ≤ 0 := Int.mul_nonpos_of_nonpos_of_nonneg (by omega) (Int.le_of_lt h3)
  omega
/-- a cut doesn't lie inside a part -/
theorem rg_in_no {C : Nat → Int × Int} {m i : Nat} (hs : rg_ps C m) (hi : i < m) {x z : Int × Int} (hx : rg_in C m i x) (hz : rg_in C m i z) {j : Nat} (hj : j < m) {a b : Int} (hb : 0 < b) (he : fr_e (C j) (a, b)) : ¬ (x.1 * b ≤ a * x.2 ∧ a * z.2 ≤ z.1 * b) := by
  rintro ⟨h1, h2⟩
  unfold fr_e at he
  dsimp only at he
  have hCj := hs.2.2.1 j hj
  by_cases c : j ≤ i
  · -- C j <= C i < x <= a / b = C j
    have k1 : (C i).1 * b < a * (C i).2 := fr_ltle (hs.2.2.1 i hi) hx.1 hb hx.2.1 h1
    have k2 : (C i).1 * (C j).2 < (C j).1 * (C i).2 := fr_ltle (hs.2.2.1 i hi) hb hCj k1 (Int.le_of_eq he.symm)
    by_cases e : j = i
    · rw [e] at k2
      omega
    · have k3 := rg_ps_l hs (i := j) (j := i) (by omega) hi
      unfold fr_l at k3
      omega
  · have hi1 : i + 1 < m := by omega
    have k1 : a * (C (i + 1)).2 < (C (i + 1)).1 * b := fr_lelt hb hz.1 (hs.2.2.1 _ hi1) h2 (hz.2.2 hi1)
    have k2 : (C j).1 * (C (i + 1)).2 < (C (i + 1)).1 * (C j).2 := fr_lelt hCj hb (hs.2.2.1 _ hi1) (Int.le_of_eq he) k1
    by_cases e : j = i + 1
    · rw [e] at k2
      omega
    · have k3 := rg_ps_l hs (i := i + 1) (j := j) (by omega) hj
      unfold fr_l at k3
      omega
theorem rg_T {C : Nat → Int × Int} {m n i : Nat} (hs : rg_ps C m) (hc : rg_cn (rg_P h q kd n) C m) (hi : i < m) {x z : Int × Int} (hx : rg_in C m i x) (hz : rg_in C m i z) : (rg_t h q kd x.1 x.2 n).1 = (rg_t h q kd z.1 z.2 n).1 := by
  have no : ∀ {x z : Int × Int}, rg_in C m i x → rg_in C m i z → ∀ a b, 0 < a → 0 < b → rg_P h q kd n a b → ¬ (x.1 * b ≤ a * x.2 ∧ a * z.2 ≤ z.1 * b) := by
    intro x z hx hz a b ha hb hp
    obtain ⟨j, j1, j2⟩ := hc a b ha hb hp
    exact rg_in_no hs hi hx hz j1 hb j2
  by_cases c : x.1 * z.2 ≤ z.1 * x.2
  · exact rg_t_le (rg_in_0 hs hi hx) hx.1 hz.1 c (no hx hz) n (Nat.le_refl _)
  · exact (rg_t_le (rg_in_0 hs hi hz) hz.1 hx.1 (by omega) (no hz hx) n (Nat.le_refl _)).symm
/-! the run -/
def rg_up (f : Nat → Int × Int × Int) (i : Nat) (v : Int × Int × Int) : Nat → Int × Int × Int := fun j => if j = i then v else f j
def rg_st (s : Int × Nat × (Nat → Int × Int × Int)) (t : Int) (e : Int × Int) : Int × Nat × (Nat → Int × Int × Int) :=
  if t = -1 then (-1, s.2.1, s.2.2) else if t = s.1 then (t, s.2.1, rg_up s.2.2 (s.2.1 - 1) (t, e.1, e.2)) else (t, s.2.1 + 1, rg_up s.2.2 s.2.1 (t, e.1, e.2))
theorem rg_up_2 (f : Nat → Int × Int × Int) (i : Nat) (v w : Int × Int × Int) : rg_up (rg_up f i v) i w = rg_up f i w := by
  funext j
  unfold rg_up
  split <;> rfl
theorem rg_st_2 (s : Int × Nat × (Nat → Int × Int × Int)) (t : Int) (e e' : Int × Int) : rg_st (rg_st s t e) t e' = rg_st s t e' := by
  unfold rg_st
  by_cases c : t = -1
  · rw [if_pos c, if_pos c, if_pos c]
  · rw [if_neg c, if_neg c, if_neg c]
    by_cases d : t = s.1
    · rw [if_pos d, if_pos rfl, if_pos d, rg_up_2]
    · rw [if_neg d, if_pos rfl, if_neg d]
      show (t, s.2.1 + 1, rg_up (rg_up s.2.2 s.2.1 (t, e.1, e.2)) (s.2.1 + 1 - 1) (t, e'.1, e'.2)) = _
      rw [Nat.add_sub_cancel, rg_up_2]
def rg_run (t : Nat → Int) (e : Nat → Int × Int) : Nat → Int × Nat × (Nat → Int × Int × Int)
  | 0 => (-1, 0, fun _ => (0, 0, 0))
  | i + 1 => rg_st (rg_run t e i) (t i) (e i)
theorem rg_run_n (t : Nat → Int) (e : Nat → Int × Int) : ∀ i, (rg_run t e i).2.1 ≤ i ∧ ((rg_run t e i).1 ≠ -1 → 0 < (rg_run t e i).2.1)
  | 0 => ⟨Nat.le_refl _, fun c => absurd rfl c⟩
  | i + 1 => by
    obtain ⟨h1, h2⟩ := rg_run_n t e i
    show (rg_st (rg_run t e i) (t i) (e i)).2.1 ≤ i + 1 ∧ ((rg_st (rg_run t e i) (t i) (e i)).1 ≠ -1 → 0 < (rg_st (rg_run t e i) (t i) (e i)).2.1)
    unfold rg_st
    by_cases c : t i = -1
    · rw [if_pos c]
      exact ⟨Nat.le_succ_of_le h1, fun d => absurd rfl d⟩
    · rw [if_neg c]
      by_cases d : t i = (rg_run t e i).1
      · rw [if_pos d]
        exact ⟨Nat.le_succ_of_le h1, fun _ => h2 (by rw [← d]; exact c)⟩
      · rw [if_neg d]
        exact ⟨Nat.succ_le_succ h1, fun _ => Nat.succ_pos _⟩
theorem rg_sim {C K : Nat → Int × Int} {m n : Nat} {tc tm : Nat → Int} {ec em : Nat → Int × Int} (hC : rg_ps C m) (hK : rg_ps K (n + 1))
    (hin : ∀ p, 1 ≤ p → p ≤ n → ∃ i, i < m ∧ fr_e (C i) (K p))
    (hT : ∀ i p, i < m → p ≤ n → (fr_e (C i) (K p) ∨ fr_l (K p) (C i)) → (p < n → fr_l (C i) (K (p + 1)) ∧ ∀ x, rg_in C m i x → fr_l x (K (p + 1))) → tc i = tm p)
    (hE : ∀ i p, i + 1 < m → p < n → fr_e (C (i + 1)) (K (p + 1)) → ec i = em p) (hEl : ec (m - 1) = em n) : rg_run tc ec m = rg_run tm em (n + 1) := by
  have pC := hC.2.2.1
  have pK := hK.2.2.1
  -- where the next mark lies among the cuts
  have nxt : ∀ i p, i < m → p < n → fr_l (C i) (K (p + 1)) → ∃ j, i < j ∧ j < m ∧ fr_e (C j) (K (p + 1)) := by
    intro i p hi hp hl
    obtain ⟨j, j1, j2⟩ := hin (p + 1) (by omega) (by omega)
    refine ⟨j, ?_, j1, j2⟩
    refine Classical.byContradiction (fun c => ?_)
    have k1 : (C i).1 * (C j).2 < (C j).1 * (C i).2 := fr_ltle (pC i hi) (pK (p + 1) (by omega)) (pC j j1) hl (Int.le_of_eq j2.symm)
    by_cases e : j = i
    · rw [e] at k1
      omega
    · have k2 := rg_ps_l hC (i := j) (j := i) (by omega) hi
      unfold fr_l at k2
      omega
  have inn : ∀ i p, i < m → p < n → fr_l (C i) (K (p + 1)) → ∀ x, rg_in C m i x → fr_l x (K (p + 1)) := by
    intro i p hi hp hl x hx
    obtain ⟨j, j1, j2, j3⟩ := nxt i p hi hp hl
    have k1 := hx.2.2 (by omega)
    by_cases e : j = i + 1
    · subst e
      exact fr_ltle hx.1 (pC (i + 1) j2) (pK (p + 1) (by omega)) k1 (Int.le_of_eq j3)
    · have k2 : fr_l x (C j) := fr_lt hx.1 (pC (i + 1) (by omega)) (pC j j2) k1 (rg_ps_l hC (by omega) j2)
      exact fr_ltle hx.1 (pC j j2) (pK (p + 1) (by omega)) k2 (Int.le_of_eq j3)
  have key : ∀ i, i < m → ∃ p, p ≤ n ∧ (p < n → fr_l (C i) (K (p + 1))) ∧ ((fr_e (C i) (K p) ∧ rg_run tc ec i = rg_run tm em p) ∨ (fr_l (K p) (C i) ∧ ∃ e, rg_run tc ec i = rg_st (rg_run tm em p) (tm p) e)) := by
    intro i
    induction i with
    | zero =>
      intro h0
      refine ⟨0, Nat.zero_le _, fun hn => ?_, Or.inl ⟨?_, rfl⟩⟩
      · have := rg_ps_0 hK (i := 1) (by decide) (by omega)
        unfold fr_l
        rw [hC.2.1, Int.zero_mul]
        exact Int.mul_pos this (pC 0 h0)
      · unfold fr_e
        rw [hC.2.1, hK.2.1, Int.zero_mul, Int.zero_mul]
    | succ i ih =>
      intro hi
      obtain ⟨p, p1, p2, p3⟩ := ih (by omega)
      have et : tc i = tm p := hT i p (by omega) p1 (by
        rcases p3 with ⟨a, -⟩ | ⟨a, -⟩
        · exact Or.inl a
        · exact Or.inr a) (fun hp => ⟨p2 hp, inn i p (by omega) hp (p2 hp)⟩)
      have es : rg_run tc ec (i + 1) = rg_st (rg_run tm em p) (tm p) (ec i) := by
        show rg_st (rg_run tc ec i) (tc i) (ec i) = _
        rw [et]
        rcases p3 with ⟨-, a⟩ | ⟨-, e, a⟩
        · rw [a]
        · rw [a, rg_st_2]
      have up : fr_l (K p) (C (i + 1)) := by
        rcases p3 with ⟨a, -⟩ | ⟨a, -⟩
        · exact fr_lelt (pK p (by omega)) (pC i (by omega)) (pC (i + 1) hi) (Int.le_of_eq a.symm) (hC.2.2.2 i hi)
        · exact fr_lt (pK p (by omega)) (pC i (by omega)) (pC (i + 1) hi) a (hC.2.2.2 i hi)
      by_cases hp : p < n
      · obtain ⟨j, j1, j2, j3⟩ := nxt i p (by omega) hp (p2 hp)
        by_cases e : j = i + 1
        · subst e
          refine ⟨p + 1, by omega, fun hp2 => ?_, Or.inl ⟨j3, ?_⟩⟩
          · exact fr_lelt (pC (i + 1) hi) (pK (p + 1) (by omega)) (pK (p + 2) (by omega)) (Int.le_of_eq j3) (hK.2.2.2 (p + 1) (by omega))
          · rw [es, hE i p hi hp j3]
            rfl
        · refine ⟨p, p1, fun _ => ?_, Or.inr ⟨up, _, es⟩⟩
          exact fr_ltle (pC (i + 1) hi) (pC j j2) (pK (p + 1) (by omega)) (rg_ps_l hC (by omega) j2) (Int.le_of_eq j3)
      · exact ⟨p, p1, fun z => absurd z hp, Or.inr ⟨up, _, es⟩⟩
  have hm := hC.1
  obtain ⟨p, p1, p2, p3⟩ := key (m - 1) (by omega)
  have pn : p = n := by
    refine Classical.byContradiction (fun c => ?_)
    obtain ⟨j, j1, j2, -⟩ := nxt (m - 1) p (by omega) (by omega) (p2 (by omega))
    omega
  subst pn
  have et : tc (m - 1) = tm p := hT (m - 1) p (by omega) p1 (by
    rcases p3 with ⟨a, -⟩ | ⟨a, -⟩
    · exact Or.inl a
    · exact Or.inr a) (fun hp => absurd hp (Nat.lt_irrefl _))
  have em1 : m = (m - 1) + 1 := by omega
  rw [em1]
  show rg_st (rg_run tc ec (m - 1)) (tc (m - 1)) (ec (m - 1)) = rg_st (rg_run tm em p) (tm p) (em p)
  rw [et, hEl]
  rcases p3 with ⟨-, a⟩ | ⟨-, e, a⟩
  · rw [a]
  · rw [a, rg_st_2]
/-! least terms -/
def rg_rd (x : Int × Int) : Int × Int := (x.1 / (Int.gcd x.1 x.2 : Int), x.2 / (Int.gcd x.1 x.2 : Int))
theorem rg_rd_e {x y : Int × Int} (hx : 0 < x.2) (hy : 0 < y.2) (h : fr_e x y) : rg_rd x = rg_rd y := by
  obtain ⟨a, b⟩ := x
  obtain ⟨c, d⟩ := y
  unfold fr_e at h
  dsimp only at hx hy h
  have g0 : 0 < (Int.gcd a b : Int) := by
    have : Int.gcd a b ≠ 0 := fun z => by rw [Int.gcd_eq_zero_iff] at z; omega
    omega
  have g1 : 0 < (Int.gcd c d : Int) := by
    have : Int.gcd c d ≠ 0 := fun z => by rw [Int.gcd_eq_zero_iff] at z; omega
    omega
  have e1 : Int.gcd (a * d) (b * d) = Int.gcd a b * d.natAbs := Int.gcd_mul_right ..
  have e2 : Int.gcd (c * b) (d * b) = Int.gcd c d * b.natAbs := Int.gcd_mul_right ..
  rw [h, Int.mul_comm b d, e2] at e1
  have e3 : (Int.gcd c d : Int) * b = (Int.gcd a b : Int) * d := by
    have := congrArg (fun z : Nat => (z : Int)) e1
    rw [Int.natCast_mul, Int.natCast_mul, Int.natAbs_of_nonneg (Int.le_of_lt hx), Int.natAbs_of_nonneg (Int.le_of_lt hy)] at this
    exact this
  obtain ⟨a1, ha⟩ := Int.gcd_dvd_left (a := a) (b := b)
  obtain ⟨b1, hb⟩ := Int.gcd_dvd_right (a := a) (b := b)
  obtain ⟨c1, hc⟩ := Int.gcd_dvd_left (a := c) (b := d)
  obtain ⟨d1, hd⟩ := Int.gcd_dvd_right (a := c) (b := d)
  unfold rg_rd
  dsimp only
  generalize (Int.gcd a b : Int) = g at *
  generalize (Int.gcd c d : Int) = g' at *
  rw [ha, hb, hc, hd, Int.mul_ediv_cancel_left _ (by omega), Int.mul_ediv_cancel_left _ (by omega), Int.mul_ediv_cancel_left _ (by omega), Int.mul_ediv_cancel_left _ (by omega)]
  have p : g * g' ≠ 0 := fun z => by rcases Int.mul_eq_zero.1 z with z | z <;> omega
  have k2 : b1 = d1 := by
    rw [hb, hd] at e3
    have : g * g' * b1 = g * g' * d1 := by
      rw [Int.mul_assoc g g' d1, ← e3, ← Int.mul_assoc, Int.mul_comm g g']
    exact Int.eq_of_mul_eq_mul_left p this
  have k1 : a1 = c1 := by
    rw [ha, hc, hb, hd, k2] at h
    have hd1 : d1 ≠ 0 := fun z => by rw [hd, z, Int.mul_zero] at hy; omega
    have : g * g' * d1 * a1 = g * g' * d1 * c1 := by
      have e : g * a1 * (g' * d1) = g * g' * d1 * a1 := by
        rw [Int.mul_assoc g a1, Int.mul_assoc g g', Int.mul_assoc g, Int.mul_comm a1]
      have e' : g' * c1 * (g * d1) = g * g' * d1 * c1 := by
        rw [Int.mul_comm g g', Int.mul_assoc g' c1, Int.mul_assoc g' g, Int.mul_assoc g', Int.mul_comm c1]
      rw [← e, ← e']
      exact h
    exact Int.eq_of_mul_eq_mul_left (fun z => by rcases Int.mul_eq_zero.1 z with z | z; exact p z; exact hd1 z) this
  rw [k1, k2]
end RG
