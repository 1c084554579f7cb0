/-! THE STATE IN NUMBERS: S 0: wide, high, markets, uses, rent tax, plans, roads; S 1 .. 4: soil, toll, owner (-1), held of the acre k = 8 y + x; S 5 (4 k + d): the road from k towards d (east, west, south, north; 4: a river's way up);
S 6: steps; S 7: the markets' acres; S 8 .. 13: kind, base, more, cost, fare, tax; S 14 (6 u + i): years, S 15 how many; S 16: prices (3 u + m); S 17, 18, 19: pieces (much, price, how many); S 20 .. 23: plans (acre, direction, kind, cost) -/
def sg_ok (S : mv_Mem) (k : Nat) : Prop := ((k % 8 : Nat) : Int) < S 0 0 ∧ ((k / 8 : Nat) : Int) < S 0 1
def sg_nx (k d : Nat) : Nat := if d = 0 then k + 1 else if d = 1 then k - 1 else if d = 2 then k + 8 else k - 8
def sg_has (S : mv_Mem) (k d : Nat) : Prop := if d = 0 then ((k % 8 + 1 : Nat) : Int) < S 0 0 else if d = 1 then 0 < k % 8 else if d = 2 then ((k / 8 + 1 : Nat) : Int) < S 0 1 else 0 < k / 8
/-- an acre's place, line by line -/
def sg_pl (S : mv_Mem) (k : Nat) : Nat := (k / 8) * (S 0 0).toNat + k % 8
/-- the acre that is told; -1 -/
def sg_ac (S : mv_Mem) (xy : Int) : Int := if 0 ≤ xy ∧ xy / 10 < S 0 0 ∧ xy % 10 < S 0 1 then 8 * (xy % 10) + xy / 10 else -1
/-- .. as a place -/
def sg_pa (S : mv_Mem) (xy : Int) : Int := if 0 ≤ sg_ac S xy then (sg_pl S (sg_ac S xy).toNat : Int) else -1
def sg_ys (S : mv_Mem) (u : Nat) : Nat → Int
  | 0 => 0
  | n + 1 => sg_ys S u n + S 14 (6 * u + n)
def sg_B (S : mv_Mem) (a n : Nat) (lo hi : Int) : Prop := ∀ i, i < n → lo ≤ S a i ∧ S a i ≤ hi
/-- what is so of every state -/
def sg_wf (S : mv_Mem) : Prop :=
  ((1 ≤ S 0 0 ∧ S 0 0 ≤ 8) ∧ (1 ≤ S 0 1 ∧ S 0 1 ≤ 6) ∧ (0 ≤ S 0 2 ∧ S 0 2 ≤ 3) ∧ (0 ≤ S 0 3 ∧ S 0 3 ≤ 6) ∧ (0 ≤ S 0 4 ∧ S 0 4 ≤ 100) ∧ (0 ≤ S 0 5 ∧ S 0 5 ≤ 8) ∧ (0 ≤ S 0 6 ∧ S 0 6 ≤ 12)) ∧
  (sg_B S 1 48 0 9 ∧ sg_B S 2 48 0 99 ∧ sg_B S 3 48 (-1) 3 ∧ sg_B S 4 48 0 1 ∧ sg_B S 5 192 0 4 ∧ sg_B S 6 4 1 99) ∧
  (∀ m : Nat, (m : Int) < S 0 2 → 0 ≤ S 7 m ∧ S 7 m < 48 ∧ sg_ok S (S 7 m).toNat) ∧ (∀ m m' : Nat, (m : Int) < S 0 2 → (m' : Int) < S 0 2 → S 7 m = S 7 m' → m = m') ∧
  (sg_B S 8 6 0 5 ∧ sg_B S 9 6 0 99 ∧ sg_B S 10 6 0 99 ∧ sg_B S 11 6 0 9999 ∧ sg_B S 12 6 0 99 ∧ sg_B S 13 6 0 9999 ∧ sg_B S 14 36 (-99) 99 ∧ sg_B S 15 6 0 6) ∧
  (sg_B S 16 18 0 999 ∧ sg_B S 17 108 0 9999 ∧ sg_B S 18 108 0 999 ∧ sg_B S 19 18 0 6) ∧
  (∀ p : Nat, (p : Int) < S 0 5 → (0 ≤ S 20 p ∧ S 20 p < 48 ∧ sg_ok S (S 20 p).toNat) ∧ (0 ≤ S 21 p ∧ S 21 p < 4 ∧ sg_has S (S 20 p).toNat (S 21 p).toNat) ∧ (1 ≤ S 22 p ∧ S 22 p ≤ 3) ∧ (0 ≤ S 23 p ∧ S 23 p ≤ 99999)) ∧
  (∀ k d : Nat, sg_ok S k → d < 4 → sg_has S k d → S 5 (4 * sg_nx k d + (if d = 0 then 1 else if d = 1 then 0 else if d = 2 then 3 else 2)) = (if S 5 (4 * k + d) = 3 then 4 else if S 5 (4 * k + d) = 4 then 3 else S 5 (4 * k + d))) ∧
  (∀ u : Nat, u < 6 → S 8 u ≠ 3 → S 15 u = 0) ∧ (∀ u : Nat, S 0 3 ≤ (u : Int) → u < 6 → S 13 u = 0 ∧ S 15 u = 0)
/-- the class's cells hold a state: the world at o = 0, what is kept at o = 37 -/
def sg_C (o : Nat) (S M : mv_Mem) : Prop :=
  (M (8 + o) 0 = S 0 0 ∧ M (8 + o) 1 = S 0 1 ∧ M (8 + o) 2 = S 0 0 * S 0 1 ∧ M (8 + o) 3 = S 0 6 ∧ M (8 + o) 4 = S 0 2) ∧
  (∀ k, sg_ok S k → M (9 + o) (sg_pl S k) = ((10 * (k % 8) + k / 8 : Nat) : Int) ∧ M (10 + o) (sg_pl S k) = S 1 k ∧ M (11 + o) (sg_pl S k) = S 2 k ∧ M (12 + o) (sg_pl S k) = S 3 k ∧ M (13 + o) (sg_pl S k) = S 4 k ∧ ∀ d, d < 4 → M (14 + o) (4 * sg_pl S k + d) = S 5 (4 * k + d)) ∧
  (∀ m : Nat, (m : Int) < S 0 2 → M (15 + o) m = (sg_pl S (S 7 m).toNat : Int)) ∧ (∀ i, i < 4 → M (16 + o) i = S 6 i) ∧
  (M (17 + o) 0 = S 0 3 ∧ M (17 + o) 1 = S 0 4) ∧
  (∀ i, i < 6 → M (18 + o) i = S 8 i ∧ M (19 + o) i = S 9 i ∧ M (20 + o) i = S 10 i ∧ M (21 + o) i = S 11 i ∧ M (22 + o) i = S 12 i ∧ M (23 + o) i = S 13 i ∧ M (24 + o) i = S 15 i ∧ M (25 + o) i = sg_ys S i (S 15 i).toNat) ∧
  (∀ i, i < 18 → M (26 + o) i = S 16 i ∧ M (27 + o) i = S 19 i) ∧ (∀ i, i < 108 → M (28 + o) i = S 17 i ∧ M (29 + o) i = S 18 i) ∧
  M (30 + o) 0 = S 0 5 ∧ (∀ p : Nat, (p : Int) < S 0 5 → M (31 + o) p = (sg_pl S (S 20 p).toNat : Int) ∧ M (32 + o) p = S 21 p ∧ M (33 + o) p = S 22 p ∧ M (34 + o) p = S 23 p)
theorem sg_C_fr {o : Nat} {S M M' : mv_Mem} (h : sg_C o S M) (hm : ∀ c, 8 + o ≤ c → c ≤ 34 + o → ∀ i, M' c i = M c i) : sg_C o S M' := by
  obtain ⟨⟨a1, a2, a3, a4, a5⟩, b, c, d, ⟨e1, e2⟩, f, g, hh, i, j⟩ := h
  refine ⟨⟨?_, ?_, ?_, ?_, ?_⟩, fun k hk => ⟨?_, ?_, ?_, ?_, ?_, fun d hd => ?_⟩, fun m hk => ?_, fun m hk => ?_, ⟨?_, ?_⟩, fun m hk => ⟨?_, ?_, ?_, ?_, ?_, ?_, ?_, ?_⟩, fun m hk => ⟨?_, ?_⟩, fun m hk => ⟨?_, ?_⟩, ?_, fun p hk => ⟨?_, ?_, ?_, ?_⟩⟩ <;> rw [hm _ (by omega) (by omega)]
  · exact a1
  · exact a2
  · exact a3
  · exact a4
  · exact a5
  · exact (b k hk).1
  · exact (b k hk).2.1
  · exact (b k hk).2.2.1
  · exact (b k hk).2.2.2.1
  · exact (b k hk).2.2.2.2.1
  · exact (b k hk).2.2.2.2.2 d hd
  · exact c m hk
  · exact d m hk
  · exact e1
  · exact e2
  · exact (f m hk).1
  · exact (f m hk).2.1
  · exact (f m hk).2.2.1
  · exact (f m hk).2.2.2.1
  · exact (f m hk).2.2.2.2.1
  · exact (f m hk).2.2.2.2.2.1
  · exact (f m hk).2.2.2.2.2.2.1
  · exact (f m hk).2.2.2.2.2.2.2
  · exact (g m hk).1
  · exact (g m hk).2
  · exact (hh m hk).1
  · exact (hh m hk).2
  · exact i
  · exact (j p hk).1
  · exact (j p hk).2.1
  · exact (j p hk).2.2.1
  · exact (j p hk).2.2.2
/-! small facts -/
theorem sg_td {a b : Int} (h : 0 ≤ a) : a.tdiv b = a / b := Int.tdiv_eq_ediv_of_nonneg h
theorem sg_tm {a b : Int} (h : 0 ≤ a) : a.tmod b = a % b := Int.tmod_eq_emod_of_nonneg h
theorem mv_cmp_le (x y : Int) : mv_cmp x y ≤ 0 ↔ x ≤ y := by
  unfold mv_cmp
  split
  · omega
  · split <;> omega
theorem mv_cmp_lt (x y : Int) : mv_cmp x y < 0 ↔ x < y := by
  unfold mv_cmp
  split
  · omega
  · split <;> omega
theorem mv_cmp_ge (x y : Int) : 0 ≤ mv_cmp x y ↔ y ≤ x := by
  unfold mv_cmp
  split
  · omega
  · split <;> omega
theorem mv_cmp_gt (x y : Int) : 0 < mv_cmp x y ↔ y < x := by
  unfold mv_cmp
  split
  · omega
  · split <;> omega
theorem mv_cmp_eq (x y : Int) : mv_cmp x y = 0 ↔ x = y := by
  unfold mv_cmp
  split
  · omega
  · split <;> omega
theorem sg_ac_ok {S : mv_Mem} {xy : Int} (hw : sg_wf S) (h : 0 ≤ sg_ac S xy) : sg_ok S (sg_ac S xy).toNat ∧ (sg_ac S xy).toNat < 48 ∧ 0 ≤ xy ∧ xy / 10 < S 0 0 ∧ xy % 10 < S 0 1 ∧ sg_ac S xy = 8 * (xy % 10) + xy / 10 := by
  obtain ⟨⟨⟨w1, w2⟩, ⟨h1, h2⟩, -⟩, -⟩ := hw
  unfold sg_ac at h ⊢
  split at h
  · rename_i hc
    rw [if_pos hc]
    refine ⟨⟨?_, ?_⟩, ?_, hc.1, hc.2.1, hc.2.2, rfl⟩ <;> omega
  · omega
theorem sg_nat {x : Int} (h : 0 ≤ x) : ∃ n : Nat, x = (n : Int) := ⟨x.toNat, by omega⟩
theorem sg_pl_lt {S : mv_Mem} {k : Nat} (hw : sg_wf S) (hk : sg_ok S k) : (sg_pl S k : Int) < S 0 0 * S 0 1 ∧ sg_pl S k < 48 := by
  obtain ⟨⟨⟨w1, w2⟩, ⟨h1, h2⟩, -⟩, -⟩ := hw
  obtain ⟨k1, k2⟩ := hk
  unfold sg_pl
  obtain ⟨w, ew⟩ := sg_nat (show 0 ≤ S 0 0 by omega)
  obtain ⟨h, eh⟩ := sg_nat (show 0 ≤ S 0 1 by omega)
  rw [ew] at w1 w2 k1
  rw [eh] at h1 h2 k2
  rw [ew, eh, Int.toNat_natCast]
  have hm : (k / 8 + 1) * w ≤ h * w := Nat.mul_le_mul_right w (by omega)
  have hm2 : h * w ≤ 6 * 8 := Nat.mul_le_mul (by omega) (by omega)
  rw [Nat.add_mul, Nat.one_mul] at hm
  refine ⟨?_, by omega⟩
  have hm4 : ((k / 8 * w + k % 8 : Nat) : Int) < ((h * w : Nat) : Int) := by omega
  rw [Int.natCast_mul] at hm4
  rw [Int.mul_comm]
  exact hm4
