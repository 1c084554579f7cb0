/-! THE MODEL: what its cells hold of a state -/
def sg_Mo (S M : mv_Mem) : Prop :=
  (M 88 8 = S 0 0 ∧ M 88 9 = S 0 1 ∧ M 88 23 = S 0 2 ∧ M 88 36 = S 0 3 ∧ M 88 37 = S 0 4 ∧ M 88 55 = S 0 5) ∧
  (∀ k, sg_ok S k → M 91 k = S 1 k ∧ M 92 k = S 2 k ∧ M 93 k = (if S 3 k < 0 then -9 else S 3 k) ∧ M 95 k = S 4 k) ∧ (∀ k, k < 48 → ¬ sg_ok S k → M 95 k = 0) ∧
  (∀ i, i < 4 → M 99 i = S 6 i) ∧ ((M 101 0 = 1 ∧ M 101 1 = -1 ∧ M 101 2 = 0 ∧ M 101 3 = 0) ∧ (M 102 0 = 0 ∧ M 102 1 = 0 ∧ M 102 2 = 1 ∧ M 102 3 = -1)) ∧
  (∀ m : Nat, (m : Int) < S 0 2 → M 103 m = S 7 m) ∧
  (∀ i, i < 6 → M 105 i = S 8 i ∧ M 106 i = S 9 i ∧ M 107 i = S 10 i ∧ M 108 i = S 11 i ∧ M 109 i = S 12 i ∧ M 110 i = S 13 i ∧ M 112 i = S 15 i) ∧ (∀ i, i < 36 → M 111 i = S 14 i) ∧
  (∀ i, i < 18 → M 113 i = S 16 i ∧ M 116 i = S 19 i) ∧ (∀ i, i < 108 → M 114 i = S 17 i ∧ M 115 i = S 18 i) ∧
  ∀ p : Nat, (p : Int) < S 0 5 → M 125 p = S 20 p ∧ M 126 p = (sg_nx (S 20 p).toNat (S 21 p).toNat : Int) ∧ M 127 p = S 22 p ∧ M 128 p = S 23 p
/-- the cells that count for it -/
def sg_mc (a i : Nat) : Prop := (a = 88 ∧ (i = 8 ∨ i = 9 ∨ i = 23 ∨ i = 36 ∨ i = 37 ∨ i = 55)) ∨ (91 ≤ a ∧ a ≤ 93) ∨ a = 95 ∨ a = 99 ∨ (101 ≤ a ∧ a ≤ 103) ∨ (105 ≤ a ∧ a ≤ 116) ∨ (125 ≤ a ∧ a ≤ 128)
/-- the road r lies between two acres -/
def sg_rp (M : mv_Mem) (r k k' : Nat) : Prop := (M 96 r = (k : Int) ∧ M 97 r = (k' : Int)) ∨ (M 96 r = (k' : Int) ∧ M 97 r = (k : Int))
/-- the list of n roads says what S 5 says -/
def sg_Rl (S M : mv_Mem) (n : Nat) : Prop := n ≤ 20 ∧ M 88 17 = (n : Int) ∧
  (∀ r, r < n → ∃ k d : Nat, sg_ok S k ∧ d < 4 ∧ sg_has S k d ∧ M 96 r = (k : Int) ∧ M 97 r = (sg_nx k d : Int) ∧ (1 ≤ M 98 r ∧ M 98 r ≤ 3) ∧ S 5 (4 * k + d) = M 98 r) ∧
  (∀ k d, sg_ok S k → d < 4 → sg_has S k d → S 5 (4 * k + d) ≠ 0 → ∃ r, r < n ∧ sg_rp M r k (sg_nx k d)) ∧
  ∀ r r' k k' : Nat, r < n → r' < n → sg_rp M r k k' → sg_rp M r' k k' → r = r'
section MD
variable {S : mv_Mem} {G : mv_G} {l : Nat} {M : mv_Mem} {F : Int → mv_Mem → Prop}
theorem sg_Mo_fr {M' : mv_Mem} (h : sg_Mo S M) (hm : ∀ a i, sg_mc a i → M' a i = M a i) : sg_Mo S M' := by
  obtain ⟨⟨a1, a2, a3, a4, a5, a6⟩, b, b2, c, ⟨⟨d1, d2, d3, d4⟩, e1, e2, e3, e4⟩, f, g, hh, pr, j, p⟩ := h
  unfold sg_mc at hm
  refine ⟨⟨?_, ?_, ?_, ?_, ?_, ?_⟩, fun k hk => ⟨?_, ?_, ?_, ?_⟩, fun k hk hn => ?_, fun i hi => ?_, ⟨⟨?_, ?_, ?_, ?_⟩, ?_, ?_, ?_, ?_⟩, fun m hmk => ?_, fun i hi => ⟨?_, ?_, ?_, ?_, ?_, ?_, ?_⟩, fun i hi => ?_, fun i hi => ⟨?_, ?_⟩, fun i hi => ⟨?_, ?_⟩, fun q hq => ⟨?_, ?_, ?_, ?_⟩⟩
  · rw [hm 88 8 (by omega)]; exact a1
  · rw [hm 88 9 (by omega)]; exact a2
  · rw [hm 88 23 (by omega)]; exact a3
  · rw [hm 88 36 (by omega)]; exact a4
  · rw [hm 88 37 (by omega)]; exact a5
  · rw [hm 88 55 (by omega)]; exact a6
  · rw [hm 91 k (by omega)]; exact (b k hk).1
  · rw [hm 92 k (by omega)]; exact (b k hk).2.1
  · rw [hm 93 k (by omega)]; exact (b k hk).2.2.1
  · rw [hm 95 k (by omega)]; exact (b k hk).2.2.2
  · rw [hm 95 k (by omega)]; exact b2 k hk hn
  · rw [hm 99 i (by omega)]; exact c i hi
  · rw [hm 101 0 (by omega)]; exact d1
  · rw [hm 101 1 (by omega)]; exact d2
  · rw [hm 101 2 (by omega)]; exact d3
  · rw [hm 101 3 (by omega)]; exact d4
  · rw [hm 102 0 (by omega)]; exact e1
  · rw [hm 102 1 (by omega)]; exact e2
  · rw [hm 102 2 (by omega)]; exact e3
  · rw [hm 102 3 (by omega)]; exact e4
  · rw [hm 103 m (by omega)]; exact f m hmk
  · rw [hm 105 i (by omega)]; exact (g i hi).1
  · rw [hm 106 i (by omega)]; exact (g i hi).2.1
  · rw [hm 107 i (by omega)]; exact (g i hi).2.2.1
  · rw [hm 108 i (by omega)]; exact (g i hi).2.2.2.1
  · rw [hm 109 i (by omega)]; exact (g i hi).2.2.2.2.1
  · rw [hm 110 i (by omega)]; exact (g i hi).2.2.2.2.2.1
  · rw [hm 112 i (by omega)]; exact (g i hi).2.2.2.2.2.2
  · rw [hm 111 i (by omega)]; exact hh i hi
  · rw [hm 113 i (by omega)]; exact (pr i hi).1
  · rw [hm 116 i (by omega)]; exact (pr i hi).2
  · rw [hm 114 i (by omega)]; exact (j i hi).1
  · rw [hm 115 i (by omega)]; exact (j i hi).2
  · rw [hm 125 q (by omega)]; exact (p q hq).1
  · rw [hm 126 q (by omega)]; exact (p q hq).2.1
  · rw [hm 127 q (by omega)]; exact (p q hq).2.2.1
  · rw [hm 128 q (by omega)]; exact (p q hq).2.2.2
theorem sg_Rl_fr {M' : mv_Mem} {n : Nat} (h : sg_Rl S M n) (h17 : M' 88 17 = M 88 17) (hm : ∀ a i, 96 ≤ a → a ≤ 98 → M' a i = M a i) : sg_Rl S M' n := by
  obtain ⟨h1, h2, h3, h4, h5⟩ := h
  have rp : ∀ r k k', sg_rp M' r k k' ↔ sg_rp M r k k' := fun r k k' => by
    unfold sg_rp
    rw [hm 96 r (by decide) (by decide), hm 97 r (by decide) (by decide)]
  refine ⟨h1, h17.trans h2, fun r hr => ?_, fun k d a b c e => ?_, fun r r' k k' a b c d => h5 r r' k k' a b ((rp r k k').1 c) ((rp r' k k').1 d)⟩
  · rw [hm 96 r (by decide) (by decide), hm 97 r (by decide) (by decide), hm 98 r (by decide) (by decide)]
    exact h3 r hr
  · obtain ⟨r, r1, r2⟩ := h4 k d a b c e
    exact ⟨r, r1, (rp r _ _).2 r2⟩
/-! numbers, refusals -/
theorem md_isIn {v a b : Int} (h1 : a ≤ v ∧ v ≤ b → F 1 M) (h0 : ¬ (a ≤ v ∧ v ≤ b) → F 0 M) : mv_Wp G 135 [.inr (.inl v), .inr (.inl a), .inr (.inl b)] (mh l) M (mv_qi (mh l) F) := by
  refine vw_X12_isIn ?_
  simp only [mv_cmp_lt, mv_cmp_gt]
  split
  · exact ⟨by decide, mv_qi_i (h0 (by omega))⟩
  · split
    · exact ⟨by decide, mv_qi_i (h0 (by omega))⟩
    · exact ⟨by decide, mv_qi_i (h1 (by omega))⟩
theorem md_outOf {v a b : Int} (h : F (sg_un v a b) M) : mv_Wp G 136 [.inr (.inl v), .inr (.inl a), .inr (.inl b)] (mh l) M (mv_qi (mh l) F) := by
  refine vw_X12_outOf ?_
  simp only [mv_cmp_ge, mv_cmp_le]
  unfold sg_un at h
  split
  · rw [if_neg (by omega)] at h
    split
    · rw [if_neg (by omega)] at h
      exact mv_qi_i h
    · rw [if_pos (by omega)] at h
      exact mv_qi_i h
  · rw [if_pos (by omega)] at h
    exact mv_qi_i h
/-! acres -/
theorem md_acreOf (hw : sg_wf S) (hM : sg_Mo S M) {a : Int} (ha : mv_R32 a) (h0 : sg_ac S a < 0 → F (-1) M) (h1 : ∀ k : Nat, sg_ok S k → k < 48 → sg_ac S a = (k : Int) → F (k : Int) M) : mv_Wp G 142 [.inr (.inr 88), .inl a] (mh l) M (mv_qi (mh l) F) := by
  refine vw_X12_acreOf ?_
  have c1 : M 88 8 = S 0 0 := hM.1.1
  have c2 : M 88 9 = S 0 1 := hM.1.2.1
  have hwd := hw.1.1
  have hht := hw.1.2.1
  rw [c1, c2]
  have no : ¬ (0 ≤ a ∧ a / 10 < S 0 0 ∧ a % 10 < S 0 1) → F (-1) M := fun z => h0 (by rw [sg_ac_no z]; decide)
  split
  · exact mv_qi_i (no (by omega))
  · rw [sg_td (by omega), sg_tm (by omega)]
    refine ⟨⟨by decide, by omega⟩, ?_⟩
    split
    · exact mv_qi_i (no (by omega))
    · refine ⟨by decide, ?_⟩
      split
      · exact mv_qi_i (no (by omega))
      · have e := sg_ac_yes (S := S) (a := a) ⟨by omega, by omega, by omega⟩
        obtain ⟨k1, k2, -⟩ := sg_ac_ok hw (xy := a) (by omega)
        have hh := h1 _ k1 k2 (by omega)
        rw [show ((sg_ac S a).toNat : Int) = 8 * (a % 10) + a / 10 by omega] at hh
        exact ⟨by decide, by omega, ⟨by decide, by omega⟩, by omega, mv_qi_i hh⟩
theorem md_isAcre (hw : sg_wf S) (hM : sg_Mo S M) {k : Nat} (h1 : sg_ok S k → F 1 M) (h0 : ¬ sg_ok S k → F 0 M) : mv_Wp G 143 [.inr (.inr 88), .inl (k : Int)] (mh l) M (mv_qi (mh l) F) := by
  refine vw_X12_isAcre ?_
  have c1 : M 88 8 = S 0 0 := hM.1.1
  have c2 : M 88 9 = S 0 1 := hM.1.2.1
  have hht := hw.1.2.1
  rw [if_neg (by omega), c1, c2, sg_td (by omega), sg_tm (by omega)]
  split
  · exact ⟨by decide, mv_qi_i (h0 (fun z => by have := z.2; omega))⟩
  · refine ⟨by decide, ?_⟩
    split
    · exact ⟨by decide, mv_qi_i (h0 (fun z => by have := z.1; omega))⟩
    · refine ⟨⟨by decide, by omega⟩, ?_⟩
      split
      · exact ⟨by decide, mv_qi_i (h0 (fun z => by have := z.2; omega))⟩
      · exact ⟨by decide, mv_qi_i (h1 ⟨by omega, by omega⟩)⟩
theorem md_told {k : Nat} (hk : k < 48) (h : F ((10 * (k % 8) + k / 8 : Nat) : Int) M) : mv_Wp G 144 [.inl (k : Int)] (mh l) M (mv_qi (mh l) F) := by
  refine vw_X12_told ?_
  rw [sg_td (by omega), sg_tm (by omega), show 10 * ((k : Int) % 8) + (k : Int) / 8 = ((10 * (k % 8) + k / 8 : Nat) : Int) by omega]
  exact ⟨by decide, by omega, ⟨by decide, by omega⟩, by omega, mv_qi_i h⟩
theorem md_marketOn (hw : sg_wf S) (hM : sg_Mo S M) {k : Nat} (h : F (sg_on S k) M) : mv_Wp G 156 [.inr (.inr 88), .inl (k : Int)] (mh l) M (mv_qi (mh l) F) := by
  have c1 : M 88 23 = S 0 2 := hM.1.2.2.1
  have hm := hw.1.2.2.1
  have key : ∀ (n m : Nat), ((m + n : Nat) : Int) = S 0 2 → F (sg_mo S k n m) M → mv_Run G 156 136 7420 2 [(0, .inr (.inr 88)), (1, .inl (k : Int)), (2, .inl (m : Int))] [] (mh l) M (mv_qi (mh l) F) := by
    intro n
    induction n with
    | zero =>
      intro m hn hF
      refine vr_X12_marketOn_2 ?_
      rw [c1, if_pos (by omega)]
      exact mv_qi_i hF
    | succ n ih =>
      intro m hn hF
      refine vr_X12_marketOn_2 ?_
      have c3 : M 103 m = S 7 m := hM.2.2.2.2.2.1 m (by omega)
      unfold sg_mo at hF
      rw [c1, if_neg (by omega), Int.toNat_natCast, c3]
      refine ⟨by omega, ?_⟩
      split
      · rename_i q
        rw [if_pos q] at hF
        exact mv_qi_i hF
      · rename_i q
        rw [if_neg q] at hF
        exact ⟨by omega, ih (m + 1) (by omega) hF⟩
  refine vw_X12_marketOn ?_
  exact key (S 0 2).toNat 0 (by omega) h
theorem md_isMarket (hM : sg_Mo S M) {m : Int} (h1 : 0 ≤ m ∧ m < S 0 2 → F 1 M) (h0 : ¬ (0 ≤ m ∧ m < S 0 2) → F 0 M) : mv_Wp G 158 [.inr (.inr 88), .inl m] (mh l) M (mv_qi (mh l) F) := by
  refine vw_X12_isMarket ?_
  have c1 : M 88 23 = S 0 2 := hM.1.2.2.1
  rw [c1]
  split
  · exact ⟨by decide, mv_qi_i (h0 (by omega))⟩
  · split
    · exact ⟨by decide, mv_qi_i (h0 (by omega))⟩
    · exact ⟨by decide, mv_qi_i (h1 (by omega))⟩
theorem md_isUse (hM : sg_Mo S M) {m : Int} (h1 : 0 ≤ m ∧ m < S 0 3 → F 1 M) (h0 : ¬ (0 ≤ m ∧ m < S 0 3) → F 0 M) : mv_Wp G 160 [.inr (.inr 88), .inl m] (mh l) M (mv_qi (mh l) F) := by
  refine vw_X12_isUse ?_
  have c1 : M 88 36 = S 0 3 := hM.1.2.2.2.1
  rw [c1]
  split
  · exact ⟨by decide, mv_qi_i (h0 (by omega))⟩
  · split
    · exact ⟨by decide, mv_qi_i (h0 (by omega))⟩
    · exact ⟨by decide, mv_qi_i (h1 (by omega))⟩
/-! roads -/
theorem md_roadOf {n k k' : Nat} (hn : n ≤ 20) (h17 : M 88 17 = (n : Int)) (h1 : ∀ r, r < n → sg_rp M r k k' → F (r : Int) M) (h0 : (∀ r, r < n → ¬ sg_rp M r k k') → F (-1) M) : mv_Wp G 147 [.inr (.inr 88), .inl (k : Int), .inl (k' : Int)] (mh l) M (mv_qi (mh l) F) := by
  have key : ∀ (m r : Nat), r + m = n → (∀ j, j < r → ¬ sg_rp M j k k') → mv_Run G 147 136 7420 2 [(0, .inr (.inr 88)), (1, .inl (k : Int)), (2, .inl (k' : Int)), (3, .inl (r : Int))] [] (mh l) M (mv_qi (mh l) F) := by
    intro m
    induction m with
    | zero =>
      intro r hr hno
      refine vr_X12_roadOf_2 ?_
      rw [h17, if_pos (by omega)]
      exact mv_qi_i (h0 (fun j hj => hno j (by omega)))
    | succ m ih =>
      intro r hr hno
      refine vr_X12_roadOf_2 ?_
      rw [h17, if_neg (by omega), Int.toNat_natCast]
      have nxt : ¬ sg_rp M r k k' → mv_R32 ((r : Int) + 1) ∧ mv_Run G 147 136 7420 2 [(0, .inr (.inr 88)), (1, .inl (k : Int)), (2, .inl (k' : Int)), (3, .inl ((r : Int) + 1))] [] (mh l) M (mv_qi (mh l) F) := fun z => ⟨by omega, ih (r + 1) (by omega) (fun j hj => by
        by_cases q : j = r
        · rw [q]
          exact z
        · exact hno j (by omega))⟩
      refine ⟨by omega, ?_⟩
      have sec : ¬ (M 96 r = (k : Int) ∧ M 97 r = (k' : Int)) → (0 ≤ (r : Int) ∧ (r : Int) < ((20 : Nat) : Int)) ∧
          (if (M 96 r) = (k' : Int) then
            (0 ≤ (r : Int) ∧ (r : Int) < ((20 : Nat) : Int)) ∧
            (if (M 97 r) = (k : Int) then mv_qi (mh l) F (some (.inl (r : Int))) (mh l) M
            else mv_R32 ((r : Int) + 1) ∧ mv_Run G 147 136 7420 2 [(0, .inr (.inr 88)), (1, .inl (k : Int)), (2, .inl (k' : Int)), (3, .inl ((r : Int) + 1))] [] (mh l) M (mv_qi (mh l) F))
          else mv_R32 ((r : Int) + 1) ∧ mv_Run G 147 136 7420 2 [(0, .inr (.inr 88)), (1, .inl (k : Int)), (2, .inl (k' : Int)), (3, .inl ((r : Int) + 1))] [] (mh l) M (mv_qi (mh l) F)) := by
        intro z
        refine ⟨by omega, ?_⟩
        split
        · rename_i q
          refine ⟨by omega, ?_⟩
          split
          · rename_i q2
            exact mv_qi_i (h1 r (by omega) (Or.inr ⟨q, q2⟩))
          · rename_i q2
            exact nxt (fun y => by rcases y with y | y; exact z y; exact q2 y.2)
        · rename_i q
          exact nxt (fun y => by rcases y with y | y; exact z y; exact q y.1)
      split
      · rename_i q
        refine ⟨by omega, ?_⟩
        split
        · rename_i q2
          exact mv_qi_i (h1 r (by omega) (Or.inl ⟨q, q2⟩))
        · rename_i q2
          exact sec (fun y => q2 y.2)
      · rename_i q
        exact sec (fun y => q y.1)
  refine vw_X12_roadOf ?_
  exact key n 0 (by omega) (fun j hj => by omega)
/-- what a road of the list says of the step along it -/
theorem sg_Rl_k (hw : sg_wf S) {n : Nat} (hR : sg_Rl S M n) {k d r : Nat} (hk : sg_ok S k) (hd : d < 4) (hh : sg_has S k d) (hr : r < n) (hp : sg_rp M r k (sg_nx k d)) :
    (1 ≤ M 98 r ∧ M 98 r ≤ 3) ∧ ((M 96 r = (k : Int) ∧ S 5 (4 * k + d) = M 98 r) ∨ (M 96 r ≠ (k : Int) ∧ S 5 (4 * k + d) = (if M 98 r = 3 then 4 else M 98 r))) := by
  obtain ⟨j, e, hj, he, hje, q1, q2, q3, q4⟩ := hR.2.2.1 r hr
  obtain ⟨b1, b2, b3⟩ := sg_back hw hj he hje
  obtain ⟨c1, c2, c3⟩ := sg_back hw hk hd hh
  obtain ⟨dd1, dd2⟩ := sg_dd_lt hd
  obtain ⟨ee1, ee2⟩ := sg_dd_lt he
  have dirq : ∀ a b e' : Nat, sg_ok S a → e < 4 → e' < 4 → sg_has S a e → sg_has S a e' → sg_nx a e = sg_nx a e' → e = e' := by
    intro a b e' ha h4 h4' h1 h2 hx
    have p1 := sg_pb_yes hw ha h1 h4
    have p2 := sg_pb_yes hw ha h2 h4'
    have g1 := (sg_pb_dir hw ha p1.2 h4).1 p1.1
    have g2 := (sg_pb_dir hw ha p1.2 h4').1 (by rw [hx]; exact p2.1)
    omega
  refine ⟨q3, ?_⟩
  rcases hp with ⟨z1, z2⟩ | ⟨z1, z2⟩
  · have hjk : j = k := by omega
    subst hjk
    have hed : e = d := dirq j 0 d hj he hd hje hh (by omega)
    subst hed
    exact Or.inl ⟨z1, q4⟩
  · refine Or.inr ⟨by omega, ?_⟩
    have hjn : j = sg_nx k d := by omega
    have hnk : sg_nx j e = k := by omega
    subst hjn
    have hed : e = sg_dd d := dirq _ 0 _ hj he dd1 hje c1 (by omega)
    subst hed
    have hop := sg_opp hw (k := sg_nx k d) (d := sg_dd d) hj he hje
    rw [hnk, dd2] at hop
    rw [hop, q4]
    split
    · rfl
    · rw [if_neg (by omega)]
theorem md_stepOf (hw : sg_wf S) (hM : sg_Mo S M) {n : Nat} (hR : sg_Rl S M n) {k d : Nat} (hk : sg_ok S k) (hd : d < 4) (hh : sg_has S k d) (h : F (S 6 (if S 5 (4 * k + d) = 4 then 0 else (S 5 (4 * k + d)).toNat)) M) : mv_Wp G 152 [.inr (.inr 88), .inl (k : Int), .inl (sg_nx k d : Int)] (mh l) M (mv_qi (mh l) F) := by
  have c99 : ∀ i, i < 4 → M 99 i = S 6 i := hM.2.2.2.1
  refine vw_X12_stepOf (md_roadOf hR.1 hR.2.1 (fun r hr hp => ?_) (fun hno => ?_))
  · obtain ⟨q3, q⟩ := sg_Rl_k hw hR hk hd hh hr hp
    have hr20 : r < 20 := Nat.lt_of_lt_of_le hr hR.1
    rw [if_neg (by omega), Int.toNat_natCast]
    refine ⟨by omega, ?_⟩
    rcases q with ⟨z1, z2⟩ | ⟨z1, z2⟩
    · rw [z2, if_neg (by omega)] at h
      rw [c99 _ (by omega)]
      split
      · exact ⟨by omega, by omega, by omega, mv_qi_i h⟩
      · exact ⟨by omega, by omega, mv_qi_i h⟩
    · rw [z2] at h
      split
      · rename_i y
        rw [if_pos y, if_pos rfl] at h
        refine ⟨by omega, by omega, ?_⟩
        have : M 99 (Int.toNat 0) = S 6 0 := c99 0 (by decide)
        rw [this]
        exact mv_qi_i h
      · rename_i y
        rw [if_neg y, if_neg (by omega)] at h
        rw [c99 _ (by omega)]
        exact ⟨by omega, by omega, mv_qi_i h⟩
  · have h0 : S 5 (4 * k + d) = 0 := Classical.byContradiction (fun z => by
      obtain ⟨r, r1, r2⟩ := hR.2.2.2.1 k d hk hd hh z
      exact hno r r1 r2)
    rw [h0, if_neg (by decide)] at h
    rw [if_pos (by decide)]
    refine ⟨by decide, ?_⟩
    have : M 99 (Int.toNat 0) = S 6 0 := c99 0 (by decide)
    rw [this]
    exact mv_qi_i h
end MD
