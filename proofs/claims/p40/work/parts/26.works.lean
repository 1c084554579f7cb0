/-! THE CLASS's WORKS: states with plans built -/
def sg_dd (d : Nat) : Nat := if d = 0 then 1 else if d = 1 then 0 else if d = 2 then 3 else 2
/-- a road is laid (0: taken away) from k towards d -/
def sg_lay (S : mv_Mem) (k d : Nat) (c : Int) : mv_Mem := mv_up (mv_up S 5 (4 * k + d) c) 5 (4 * sg_nx k d + sg_dd d) (if c = 3 then 4 else c)
/-- a set holds a plan -/
def sg_bt (s n : Nat) : Prop := s / 2 ^ n % 2 = 1
noncomputable def sg_pm (P : Prop) (A B : mv_Mem) : mv_Mem := @ite mv_Mem P (Classical.propDecidable P) A B
/-- the first n plans of a set are built (b), torn down -/
noncomputable def sg_bl (S : mv_Mem) (s : Nat) (b : Bool) : Nat → mv_Mem
  | 0 => S
  | n + 1 => sg_pm (sg_bt s n) (sg_lay (sg_bl S s b n) (S 20 n).toNat (S 21 n).toNat (if b = true then S 22 n else 0)) (sg_bl S s b n)
noncomputable def sg_wi (S : mv_Mem) (s : Nat) : mv_Mem := sg_bl S s true (S 0 5).toNat
noncomputable def sg_co (S : mv_Mem) (s : Nat) : Nat → Int
  | 0 => 0
  | n + 1 => sg_if (sg_bt s n) (sg_co S s n + S 23 n) (sg_co S s n)
/-- a plan stands -/
def sg_bu (S : mv_Mem) (p : Nat) : Prop := S 5 (4 * (S 20 p).toNat + (S 21 p).toNat) ≠ 0
noncomputable def sg_gain (S : mv_Mem) (p : Nat) : Int := sg_all (sg_wi S (2 ^ p)) - sg_all S - 100 * S 23 p
noncomputable def sg_los (S : mv_Mem) (s : Nat) : Int := sg_fo S (fun k x => if sg_rt (sg_wi S s) k < sg_rt S k then x + 1 else x) 0 48
/-- the best of the sets 0 .. n: it, its rents, its cost -/
noncomputable def sg_be (S : mv_Mem) (sum : Int) : Nat → Int × Int × Int
  | 0 => (0, sg_all S, 0)
  | n + 1 => sg_be1 (n + 1) sum (sg_co S (n + 1) (S 0 5).toNat) (sg_all (sg_wi S (n + 1))) (sg_be S sum n)
where sg_be1 (n : Nat) (sum c v : Int) (q : Int × Int × Int) : Int × Int × Int := if c ≤ sum ∧ (q.2.1 < v ∨ (v = q.2.1 ∧ c < q.2.2)) then ((n : Int), v, c) else q
theorem sg_pm_y {P : Prop} {A B : mv_Mem} (h : P) : sg_pm P A B = A := if_pos h
theorem sg_pm_n {P : Prop} {A B : mv_Mem} (h : ¬ P) : sg_pm P A B = B := if_neg h
set_option maxRecDepth 100000 in
theorem sg_bits : ∀ s : Fin 256, ∀ n : Fin 8, mv_and (mv_shr (s.1 : Int) (n.1 : Int)) 1 = ((s.1 / 2 ^ n.1 % 2 : Nat) : Int) := by decide +kernel
theorem sg_bit {s n : Nat} (hs : s < 256) (hn : n < 8) : mv_and (mv_shr (s : Int) (n : Int)) 1 = ((s / 2 ^ n % 2 : Nat) : Int) := sg_bits ⟨s, hs⟩ ⟨n, hn⟩
theorem sg_shls : ∀ n : Fin 9, mv_shl 1 (n.1 : Int) = ((2 ^ n.1 : Nat) : Int) := by decide +kernel
theorem sg_shl {n : Nat} (hn : n < 9) : mv_shl 1 (n : Int) = ((2 ^ n : Nat) : Int) := sg_shls ⟨n, hn⟩
theorem sg_xor1 {d : Nat} (hd : d < 4) : mv_xor (d : Int) 1 = (sg_dd d : Int) := by
  have : ∀ d : Fin 4, mv_xor (d.1 : Int) 1 = (sg_dd d.1 : Int) := by decide +kernel
  exact this ⟨d, hd⟩
theorem sg_dd_lt {d : Nat} (hd : d < 4) : sg_dd d < 4 ∧ sg_dd (sg_dd d) = d := by
  have : ∀ d : Fin 4, sg_dd d.1 < 4 ∧ sg_dd (sg_dd d.1) = d.1 := by decide
  exact this ⟨d, hd⟩
section WO
variable {S : mv_Mem} {G : mv_G} {l : Nat} {M : mv_Mem} {F : Int → mv_Mem → Prop}
/-- going back is the other way -/
theorem sg_back (hw : sg_wf S) {k d : Nat} (hk : sg_ok S k) (hd : d < 4) (hh : sg_has S k d) : sg_has S (sg_nx k d) (sg_dd d) ∧ sg_nx (sg_nx k d) (sg_dd d) = k ∧ sg_nx k d ≠ k := by
  obtain ⟨⟨⟨w1, w2⟩, ⟨h1, h2⟩, -⟩, -⟩ := hw
  obtain ⟨k1, k2⟩ := hk
  unfold sg_has at hh
  rcases (show d = 0 ∨ d = 1 ∨ d = 2 ∨ d = 3 by omega) with rfl | rfl | rfl | rfl
  · simp only [if_true] at hh
    refine ⟨?_, ?_, ?_⟩
    · show 0 < (k + 1) % 8
      omega
    · show k + 1 - 1 = k
      omega
    · show k + 1 ≠ k
      omega
  · simp only [if_true, show ¬ (1 = 0) by decide, if_false] at hh
    refine ⟨?_, ?_, ?_⟩
    · show (((k - 1) % 8 + 1 : Nat) : Int) < S 0 0
      omega
    · show k - 1 + 1 = k
      omega
    · show k - 1 ≠ k
      omega
  · simp only [if_true, show ¬ (2 = 0) by decide, show ¬ (2 = 1) by decide, if_false] at hh
    refine ⟨?_, ?_, ?_⟩
    · show 0 < (k + 8) / 8
      omega
    · show k + 8 - 8 = k
      omega
    · show k + 8 ≠ k
      omega
  · simp only [show ¬ (3 = 0) by decide, show ¬ (3 = 1) by decide, show ¬ (3 = 2) by decide, if_false] at hh
    refine ⟨?_, ?_, ?_⟩
    · show (((k - 8) / 8 + 1 : Nat) : Int) < S 0 1
      omega
    · show k - 8 + 8 = k
      omega
    · show k - 8 ≠ k
      omega
theorem sg_opp (hw : sg_wf S) {k d : Nat} (hk : sg_ok S k) (hd : d < 4) (hh : sg_has S k d) : S 5 (4 * sg_nx k d + sg_dd d) = (if S 5 (4 * k + d) = 3 then 4 else if S 5 (4 * k + d) = 4 then 3 else S 5 (4 * k + d)) := hw.2.2.2.2.2.2.2.1 k d hk hd hh
theorem sg_wf_lay (hw : sg_wf S) {k d : Nat} {c : Int} (hk : sg_ok S k) (hd : d < 4) (hh : sg_has S k d) (hc : 0 ≤ c ∧ c ≤ 3) : sg_wf (sg_lay S k d c) := by
  obtain ⟨b1, b2, b3⟩ := sg_back hw hk hd hh
  obtain ⟨dd1, dd2⟩ := sg_dd_lt hd
  refine ⟨hw.1, ⟨hw.2.1.1, hw.2.1.2.1, hw.2.1.2.2.1, hw.2.1.2.2.2.1, fun j hj => ?_, hw.2.1.2.2.2.2.2⟩, hw.2.2.1, hw.2.2.2.1, hw.2.2.2.2.1, hw.2.2.2.2.2.1, hw.2.2.2.2.2.2.1, fun j e hj he hje => ?_, hw.2.2.2.2.2.2.2.2⟩
  · unfold sg_lay
    by_cases q : j = 4 * sg_nx k d + sg_dd d
    · rw [q, mv_up_s]
      split <;> omega
    · rw [mv_up_n (fun z => q z.2)]
      by_cases q2 : j = 4 * k + d
      · rw [q2, mv_up_s]
        omega
      · rw [mv_up_n (fun z => q2 z.2)]
        exact hw.2.1.2.2.2.2.1 j hj
  · obtain ⟨c1, c2, c3⟩ := sg_back hw (k := j) (d := e) hj he hje
    obtain ⟨ee1, ee2⟩ := sg_dd_lt he
    show sg_lay S k d c 5 (4 * sg_nx j e + sg_dd e) = (if sg_lay S k d c 5 (4 * j + e) = 3 then 4 else if sg_lay S k d c 5 (4 * j + e) = 4 then 3 else sg_lay S k d c 5 (4 * j + e))
    unfold sg_lay
    by_cases q1 : j = k ∧ e = d
    · obtain ⟨rfl, rfl⟩ := q1
      rw [mv_up_s, mv_up_n (fun z => by omega), mv_up_s]
      split
      · rfl
      · rw [if_neg (by omega)]
    · by_cases q2 : j = sg_nx k d ∧ e = sg_dd d
      · obtain ⟨rfl, rfl⟩ := q2
        rw [b2, dd2, mv_up_n (fun z => by omega), mv_up_s, mv_up_s]
        by_cases z : c = 3
        · rw [if_pos z, if_neg (by omega), if_pos rfl]
          exact z
        · rw [if_neg z, if_neg z, if_neg (by omega)]
      · have n1 : ¬ (4 * j + e = 4 * k + d) := fun z => q1 ⟨by omega, by omega⟩
        have n2 : ¬ (4 * j + e = 4 * sg_nx k d + sg_dd d) := fun z => q2 ⟨by omega, by omega⟩
        have n3 : ¬ (4 * sg_nx j e + sg_dd e = 4 * k + d) := fun z => by
          have z1 : sg_nx j e = k := by omega
          have z2 : sg_dd e = d := by omega
          exact q2 ⟨by rw [← z1, ← z2, c2], by rw [← z2, ee2]⟩
        have n4 : ¬ (4 * sg_nx j e + sg_dd e = 4 * sg_nx k d + sg_dd d) := fun z => by
          have z1 : sg_nx j e = sg_nx k d := by omega
          have z2 : sg_dd e = sg_dd d := by omega
          have z3 : e = d := by rw [← ee2, ← dd2, z2]
          exact q1 ⟨by rw [← c2, ← b2, z1, z2], z3⟩
        rw [mv_up_n (fun z => n4 z.2), mv_up_n (fun z => n3 z.2), mv_up_n (fun z => n2 z.2), mv_up_n (fun z => n1 z.2)]
        exact sg_opp hw hj he hje
theorem sg_lay_o {k d : Nat} {c : Int} {a i : Nat} (h : a ≠ 5) : sg_lay S k d c a i = S a i := by
  unfold sg_lay
  rw [mv_up_n (fun z => h z.1), mv_up_n (fun z => h z.1)]
theorem sg_C_lay (hw : sg_wf S) (hC : sg_C 0 S M) {k d : Nat} {c c' : Int} (hk : sg_ok S k) (hd : d < 4) (hh : sg_has S k d) (hc : c' = (if c = 3 then 4 else c)) : sg_C 0 (sg_lay S k d c) (mv_up (mv_up M 14 (4 * sg_pl S k + d) c) 14 (4 * sg_pl S (sg_nx k d) + sg_dd d) c') := by
  have hn := sg_nx_ok hw hk hd hh
  obtain ⟨dd1, dd2⟩ := sg_dd_lt hd
  subst hc
  refine ⟨hC.1, fun j hj => ?_, hC.2.2.1, hC.2.2.2.1, hC.2.2.2.2.1, fun j hj => ?_, hC.2.2.2.2.2.2⟩
  · obtain ⟨q1, q2, q3, q4, q5, q6⟩ := hC.2.1 j hj
    refine ⟨q1, q2, q3, q4, q5, fun e he => ?_⟩
    show mv_up (mv_up M 14 (4 * sg_pl S k + d) c) 14 (4 * sg_pl S (sg_nx k d) + sg_dd d) (if c = 3 then 4 else c) 14 (4 * sg_pl S j + e) = sg_lay S k d c 5 (4 * j + e)
    unfold sg_lay
    by_cases r1 : j = sg_nx k d ∧ e = sg_dd d
    · rw [r1.1, r1.2, mv_up_s, mv_up_s]
    · have r1' : ¬ (4 * sg_pl S j + e = 4 * sg_pl S (sg_nx k d) + sg_dd d) := fun z => r1 ⟨sg_pl_inj hw hj hn (by omega), by omega⟩
      by_cases r2 : j = k ∧ e = d
      · obtain ⟨rfl, rfl⟩ := r2
        rw [mv_up_n (fun z => r1' z.2), mv_up_s, mv_up_n (fun z => r1 ⟨by omega, by omega⟩), mv_up_s]
      · have r2' : ¬ (4 * sg_pl S j + e = 4 * sg_pl S k + d) := fun z => r2 ⟨sg_pl_inj hw hj hk (by omega), by omega⟩
        rw [mv_up_n (fun z => r1' z.2), mv_up_n (fun z => r2' z.2), mv_up_n (fun z => r1 ⟨by omega, by omega⟩), mv_up_n (fun z => r2 ⟨by omega, by omega⟩)]
        exact q6 e he
  · obtain ⟨q1, q2, q3, q4, q5, q6, q7, q8⟩ := hC.2.2.2.2.2.1 j hj
    have e : ∀ n, sg_ys (sg_lay S k d c) j n = sg_ys S j n := fun n => by
      unfold sg_lay
      rw [sg_ys_u (by decide), sg_ys_u (by decide)]
    refine ⟨q1, q2, q3, q4, q5, q6, q7, ?_⟩
    rw [e, sg_lay_o (by decide)]
    exact q8
theorem cl_layRoad (hw : sg_wf S) (hC : sg_C 0 S M) {F : mv_Mem → Prop} {k d : Nat} {c : Int} (hk : sg_ok S k) (hd : d < 4) (hh : sg_has S k d) (h : ∀ M', (∀ a i, a ≠ 14 → M' a i = M a i) → sg_C 0 (sg_lay S k d c) M' → F M') :
    mv_Wp G 8 [.inr (.inr 8), .inl (sg_pl S k : Int), .inl (d : Int), .inl c] (mh l) M (mv_qv (mh l) F) := by
  refine vw_X0_layRoad (cl_beside hw hC hk hd ?_)
  obtain ⟨e1, hn⟩ := sg_pb_yes hw hk hh hd
  obtain ⟨dd1, dd2⟩ := sg_dd_lt hd
  have hp := (sg_pl_lt hw hk).2
  have hq := (sg_pl_lt hw hn).2
  rw [if_neg (by omega), e1, sg_xor1 hd, show Int.toNat ((sg_pl S k : Int) * 4 + (d : Int)) = 4 * sg_pl S k + d by omega, show Int.toNat ((sg_pl S (sg_nx k d) : Int) * 4 + (sg_dd d : Int)) = 4 * sg_pl S (sg_nx k d) + sg_dd d by omega]
  refine ⟨by omega, by omega, by omega, by omega, by omega, ?_⟩
  split
  · rename_i q
    exact ⟨by omega, mv_qv_i (h _ (fun a i ha => by rw [mv_up_n (fun z => ha z.1), mv_up_n (fun z => ha z.1)]) (sg_C_lay hw hC hk hd hh (by rw [if_pos q])))⟩
  · rename_i q
    exact ⟨by omega, mv_qv_i (h _ (fun a i ha => by rw [mv_up_n (fun z => ha z.1), mv_up_n (fun z => ha z.1)]) (sg_C_lay hw hC hk hd hh (by rw [if_neg q])))⟩
/-! sets of plans -/
theorem sg_bl_o (S : mv_Mem) (s : Nat) (b : Bool) : ∀ n, ∀ a i, a ≠ 5 → sg_bl S s b n a i = S a i
  | 0, _, _, _ => rfl
  | n + 1, a, i, h => by
    show sg_pm (sg_bt s n) _ _ a i = S a i
    by_cases q : sg_bt s n
    · rw [sg_pm_y q, sg_lay_o h]
      exact sg_bl_o S s b n a i h
    · rw [sg_pm_n q]
      exact sg_bl_o S s b n a i h
theorem sg_wfp (hw : sg_wf S) {p : Nat} (hp : (p : Int) < S 0 5) : sg_ok S (S 20 p).toNat ∧ (S 21 p).toNat < 4 ∧ sg_has S (S 20 p).toNat (S 21 p).toNat ∧ 1 ≤ S 22 p ∧ S 22 p ≤ 3 ∧ 0 ≤ S 23 p ∧ S 23 p ≤ 99999 ∧ 0 ≤ S 21 p := by
  obtain ⟨⟨a1, a2, a3⟩, ⟨b1, b2, b3⟩, c, d⟩ := hw.2.2.2.2.2.2.1 p hp
  exact ⟨a3, by omega, b3, c.1, c.2, d.1, d.2, b1⟩
theorem sg_bl_wf (hw : sg_wf S) (s : Nat) (b : Bool) : ∀ n : Nat, (n : Int) ≤ S 0 5 → sg_wf (sg_bl S s b n)
  | 0, _ => hw
  | n + 1, h => by
    have ih := sg_bl_wf hw s b n (by omega)
    have ho := sg_bl_o S s b n
    show sg_wf (sg_pm (sg_bt s n) _ _)
    by_cases q : sg_bt s n
    · rw [sg_pm_y q]
      obtain ⟨p1, p2, p3, p4, p5, -⟩ := sg_wfp hw (p := n) (by omega)
      refine sg_wf_lay ih ?_ p2 ?_ (by split <;> omega)
      · exact ⟨by rw [ho 0 0 (by decide)]; exact p1.1, by rw [ho 0 1 (by decide)]; exact p1.2⟩
      · unfold sg_has
        rw [ho 0 0 (by decide), ho 0 1 (by decide)]
        exact p3
    · rw [sg_pm_n q]
      exact ih
theorem sg_ok_bl {s : Nat} {b : Bool} {n k : Nat} : sg_ok (sg_bl S s b n) k ↔ sg_ok S k := by
  unfold sg_ok
  rw [sg_bl_o S s b n 0 0 (by decide), sg_bl_o S s b n 0 1 (by decide)]
theorem sg_has_bl {s : Nat} {b : Bool} {n k d : Nat} : sg_has (sg_bl S s b n) k d ↔ sg_has S k d := by
  unfold sg_has
  rw [sg_bl_o S s b n 0 0 (by decide), sg_bl_o S s b n 0 1 (by decide)]
theorem sg_pl_bl {s : Nat} {b : Bool} {n k : Nat} : sg_pl (sg_bl S s b n) k = sg_pl S k := by
  unfold sg_pl
  rw [sg_bl_o S s b n 0 0 (by decide)]
/-- what is touched by the first n plans of a set -/
def sg_tc (S : mv_Mem) (s n i : Nat) : Prop := ∃ p, p < n ∧ sg_bt s p ∧ (i = 4 * (S 20 p).toNat + (S 21 p).toNat ∨ i = 4 * sg_nx (S 20 p).toNat (S 21 p).toNat + sg_dd (S 21 p).toNat)
theorem sg_bl_n {s : Nat} {b : Bool} : ∀ {n i : Nat}, ¬ sg_tc S s n i → sg_bl S s b n 5 i = S 5 i
  | 0, _, _ => rfl
  | n + 1, i, h => by
    have ih : sg_bl S s b n 5 i = S 5 i := sg_bl_n (fun ⟨p, p1, p2⟩ => h ⟨p, by omega, p2⟩)
    show sg_pm (sg_bt s n) _ _ 5 i = S 5 i
    by_cases q : sg_bt s n
    · rw [sg_pm_y q]
      unfold sg_lay
      rw [mv_up_n (fun z => h ⟨n, by omega, q, Or.inr z.2⟩), mv_up_n (fun z => h ⟨n, by omega, q, Or.inl z.2⟩)]
      exact ih
    · rw [sg_pm_n q]
      exact ih
theorem sg_bl_0 {s : Nat} : ∀ {n i : Nat}, sg_tc S s n i → sg_bl S s false n 5 i = 0
  | 0, _, ⟨_, h, _⟩ => by omega
  | n + 1, i, h => by
    show sg_pm (sg_bt s n) _ _ 5 i = 0
    by_cases q : sg_bt s n
    · rw [sg_pm_y q]
      show mv_up (mv_up _ 5 _ (if false = true then S 22 n else 0)) 5 _ (if (if false = true then S 22 n else 0) = 3 then 4 else (if false = true then S 22 n else 0)) 5 i = 0
      rw [if_neg (show ¬ (false = true) by decide), if_neg (show ¬ ((0 : Int) = 3) by decide)]
      by_cases q1 : i = 4 * sg_nx (S 20 n).toNat (S 21 n).toNat + sg_dd (S 21 n).toNat
      · rw [q1, mv_up_s]
      · rw [mv_up_n (fun z => q1 z.2)]
        by_cases q2 : i = 4 * (S 20 n).toNat + (S 21 n).toNat
        · rw [q2, mv_up_s]
        · rw [mv_up_n (fun z => q2 z.2)]
          obtain ⟨p, p1, p2, p3⟩ := h
          refine sg_bl_0 ⟨p, ?_, p2, p3⟩
          rcases Nat.lt_or_ge p n with z | z
          · exact z
          · exfalso
            have : p = n := by omega
            subst this
            rcases p3 with p3 | p3
            · exact q2 p3
            · exact q1 p3
    · rw [sg_pm_n q]
      obtain ⟨p, p1, p2, p3⟩ := h
      refine sg_bl_0 ⟨p, ?_, p2, p3⟩
      rcases Nat.lt_or_ge p n with z | z
      · exact z
      · exfalso
        have : p = n := by omega
        subst this
        exact q p2
/-- built and torn down: as it was, if nothing stood there -/
theorem sg_bl_b (hw : sg_wf S) {s n : Nat} (hn : (n : Int) ≤ S 0 5) (h : ∀ p, p < n → sg_bt s p → ¬ sg_bu S p) : sg_bl (sg_bl S s true n) s false n = S := by
  have ho := sg_bl_o S s true n
  have ht : ∀ i, sg_tc (sg_bl S s true n) s n i ↔ sg_tc S s n i := fun i => by
    unfold sg_tc
    constructor
    · rintro ⟨p, p1, p2, p3⟩
      rw [ho 20 p (by decide), ho 21 p (by decide)] at p3
      exact ⟨p, p1, p2, p3⟩
    · rintro ⟨p, p1, p2, p3⟩
      refine ⟨p, p1, p2, ?_⟩
      rw [ho 20 p (by decide), ho 21 p (by decide)]
      exact p3
  funext a i
  by_cases q : a = 5
  · subst q
    by_cases t : sg_tc S s n i
    · rw [sg_bl_0 ((ht i).2 t)]
      obtain ⟨p, p1, p2, p3⟩ := t
      obtain ⟨k1, k2, k3, -⟩ := sg_wfp hw (p := p) (by omega)
      have h0 : S 5 (4 * (S 20 p).toNat + (S 21 p).toNat) = 0 := Classical.byContradiction (fun z => h p p1 p2 z)
      rcases p3 with p3 | p3
      · rw [p3, h0]
      · rw [p3, sg_opp hw k1 k2 k3, h0]
        decide
    · rw [sg_bl_n (fun z => t ((ht i).1 z)), sg_bl_n t]
  · rw [sg_bl_o _ s false n a i q, ho a i q]
/-- the ways on foot stand in the cells -/
def sg_Wf (S M : mv_Mem) : Prop := sg_tb S M true 41 ∧ ∀ m k : Nat, (m : Int) < S 0 2 → sg_ok S k → M 37 (48 * m + sg_pl S k) = sg_way S true (S 7 m).toNat k
theorem sg_Wf_fr {M' : mv_Mem} (h : sg_Wf S M) (hm : ∀ c, c = 37 ∨ c = 39 ∨ c = 41 → ∀ i, M' c i = M c i) : sg_Wf S M' :=
  ⟨sg_tb_fr h.1 (hm 39 (by omega)) (hm 41 (by omega)), fun m k h1 h2 => (hm 37 (by omega) _).trans (h.2 m k h1 h2)⟩
theorem sg_way_c {S S' : mv_Mem} {wk : Bool} (h0 : ∀ k, sg_ok S' k ↔ sg_ok S k) (hh : ∀ k d, sg_has S' k d ↔ sg_has S k d) (hf : ∀ k d, sg_fee S' wk k d = sg_fee S wk k d) (to k : Nat) : sg_way S' wk to k = sg_way S wk to k := by
  unfold sg_way
  have : (fun f => sg_IW S' wk to f) = (fun f => sg_IW S wk to f) := by
    funext f
    unfold sg_IW sg_cls
    simp only [h0, hh, hf]
  rw [this]
theorem sg_Wf_bl {s : Nat} {b : Bool} {n : Nat} (h : sg_Wf S M) : sg_Wf (sg_bl S s b n) M := by
  have ho := sg_bl_o S s b n
  have hf : ∀ k d, sg_fee (sg_bl S s b n) true k d = sg_fee S true k d := fun k d => by
    unfold sg_fee
    rw [if_pos rfl, if_pos rfl, ho 2 _ (by decide)]
  have hpb : ∀ k d, sg_pb (sg_bl S s b n) k d = sg_pb S k d := fun k d => by
    unfold sg_pb
    rw [sg_pl_bl, ho 0 0 (by decide), ho 0 1 (by decide)]
  refine ⟨fun k d hk hd => ?_, fun m k hm hk => ?_⟩
  · rw [sg_pl_bl, hpb, hf, sg_has_bl]
    exact h.1 k d (sg_ok_bl.1 hk) hd
  · rw [ho 0 2 (by decide)] at hm
    rw [sg_pl_bl, ho 7 m (by decide), sg_way_c (fun k => sg_ok_bl) (fun k d => sg_has_bl) hf]
    exact h.2 m k hm (sg_ok_bl.1 hk)
theorem sg_all_b (hw : sg_wf S) : 0 ≤ sg_all S ∧ sg_all S ≤ 7680000000 := by
  obtain ⟨n48, hn1, hn2⟩ := sg_n48 hw
  unfold sg_all
  rw [sg_fo_fp hw hn1]
  have := sg_fp_b (f := fun k x => x + sg_rt S k) (a := 0) hw (b := 160000000) (by omega) (fun k x hk => by have := sg_rt_b hw hk; omega) n48 (by omega)
  omega
theorem sg_bt_1 {p q : Nat} (h : sg_bt (2 ^ p) q) (hp : p < 8) (hq : q < 8) : q = p := by
  have : ∀ p : Fin 8, ∀ q : Fin 8, 2 ^ p.1 / 2 ^ q.1 % 2 = 1 → q.1 = p.1 := by decide
  exact this ⟨p, hp⟩ ⟨q, hq⟩ h
theorem sg_p2 {p : Nat} (hp : p < 8) : 2 ^ p < 256 := by
  have := Nat.pow_lt_pow_right (a := 2) (by decide) hp
  omega
/-- what works leave as it is -/
def sg_wu (M0 M : mv_Mem) : Prop := ∀ a i, a ≠ 14 → a ≠ 36 → a ≠ 40 → a ≠ 42 → a ≠ 43 → a ≠ 6 → a ≠ 78 → M a i = M0 a i
end WO
