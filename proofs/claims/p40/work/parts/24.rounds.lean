/-! THE CLASS's ROUNDS, WHAT IT HOLDS, WHAT FALLS -/
def sg_rc (S : mv_Mem) (n : Nat) : Prop := 0 < S 19 n ∧ ((n % 3 : Nat) : Int) < S 0 2
noncomputable def sg_r1 (S : mv_Mem) (n : Nat) : mv_Mem × Int := if (0 < S 19 n ∧ ((n % 3 : Nat) : Int) < S 0 2) ∧ sg_clr S n ≠ -9 ∧ sg_clr S n ≠ S 16 n then (mv_up S 16 n (sg_clr S n), 1) else (S, 0)
/-- a round over the first n offers: the state behind it, whether a price changed -/
noncomputable def sg_ro (S : mv_Mem) : Nat → mv_Mem × Int
  | 0 => (S, 0)
  | n + 1 => ((sg_r1 (sg_ro S n).1 n).1, if (sg_r1 (sg_ro S n).1 n).2 = 1 then 1 else (sg_ro S n).2)
noncomputable def sg_rd (S : mv_Mem) : mv_Mem × Int := sg_ro S (3 * (S 0 3).toNat)
/-- at most n rounds: the state, how many went -/
noncomputable def sg_rn (S : mv_Mem) : Nat → mv_Mem × Int
  | 0 => (S, 0)
  | n + 1 => if (sg_rd S).2 = 0 then ((sg_rd S).1, 1) else ((sg_rn (sg_rd S).1 n).1, (sg_rn (sg_rd S).1 n).2 + 1)
/-- an owner's rents behind a round -/
noncomputable def sg_rb (S : mv_Mem) (w : Int) : Int := sg_own (sg_rd S).1 w
noncomputable def sg_hd (S : mv_Mem) (w : Int) : Nat → Int × Int
  | 0 => (sg_rb S w, -9)
  | n + 1 => if 0 ≤ sg_ac S n ∧ S 3 (sg_ac S n).toNat = w ∧ sg_tk S (sg_ac S n).toNat ≠ -1 ∧ (sg_hd S w n).1 < sg_rb (mv_up S 4 (sg_ac S n).toNat 1) w then (sg_rb (mv_up S 4 (sg_ac S n).toNat 1) w, (n : Int)) else sg_hd S w n
/-- S' is S but for prices -/
def sg_pq (S S' : mv_Mem) : Prop := ∀ a i, a ≠ 16 → S' a i = S a i
section RO
variable {S : mv_Mem} {G : mv_G} {l : Nat} {M : mv_Mem} {F : Int → mv_Mem → Prop}
theorem sg_clr_b (S : mv_Mem) (n : Nat) : sg_clr S n = -9 ∨ (0 ≤ sg_clr S n ∧ sg_clr S n ≤ 999) := by
  rcases sg_cf_i (fun v => sg_bo S n (v : Int) ≤ sg_cm (mv_up S 16 n (v : Int)) n) 1000 with h | ⟨v, h1, h2, h3⟩
  · exact Or.inl h.1
  · refine Or.inr ?_
    show 0 ≤ sg_cf _ 1000 ∧ sg_cf _ 1000 ≤ 999
    rw [h2]
    omega
theorem sg_r1_i (S : mv_Mem) (n : Nat) : (sg_r1 S n = (S, 0) ∨ ∃ v, 0 ≤ v ∧ v ≤ 999 ∧ sg_r1 S n = (mv_up S 16 n v, 1)) := by
  unfold sg_r1
  split
  · rename_i q
    rcases sg_clr_b S n with z | z
    · exact absurd z q.2.1
    · exact Or.inr ⟨_, z.1, z.2, rfl⟩
  · exact Or.inl rfl
theorem sg_ro_wf (hw : sg_wf S) : ∀ n, sg_wf (sg_ro S n).1
  | 0 => hw
  | n + 1 => by
    show sg_wf (sg_r1 (sg_ro S n).1 n).1
    rcases sg_r1_i (sg_ro S n).1 n with h | ⟨v, h0, h1, h⟩
    · rw [h]
      exact sg_ro_wf hw n
    · rw [h]
      exact sg_wf_16 (sg_ro_wf hw n) ⟨h0, h1⟩
theorem sg_ro_pq (S : mv_Mem) : ∀ n, sg_pq S (sg_ro S n).1
  | 0 => fun _ _ _ => rfl
  | n + 1 => by
    intro a i ha
    show (sg_r1 (sg_ro S n).1 n).1 a i = S a i
    rcases sg_r1_i (sg_ro S n).1 n with h | ⟨v, h0, h1, h⟩
    · rw [h]
      exact sg_ro_pq S n a i ha
    · rw [h]
      exact (mv_up_n (fun z => ha z.1)).trans (sg_ro_pq S n a i ha)
theorem sg_ro_01 (S : mv_Mem) : ∀ n, (sg_ro S n).2 = 0 ∨ (sg_ro S n).2 = 1
  | 0 => Or.inl rfl
  | n + 1 => by
    show (if (sg_r1 (sg_ro S n).1 n).2 = 1 then (1 : Int) else (sg_ro S n).2) = 0 ∨ (if (sg_r1 (sg_ro S n).1 n).2 = 1 then (1 : Int) else (sg_ro S n).2) = 1
    split
    · exact Or.inr rfl
    · exact sg_ro_01 S n
theorem sg_rd_wf (hw : sg_wf S) : sg_wf (sg_rd S).1 := sg_ro_wf hw _
/-- cells that a round leaves as they are -/
def sg_ru (M0 M : mv_Mem) : Prop := ∀ a i, a ≠ 26 → a ≠ 42 → a ≠ 73 → a ≠ 74 → M a i = M0 a i
theorem cl_runRound (hw : sg_wf S) {M0 : mv_Mem} (hC : sg_C 0 S M0) (hW : sg_W S M0) (hB : sg_Bd S M0)
    (h : ∀ M, sg_ru M0 M → sg_C 0 (sg_rd S).1 M → sg_W (sg_rd S).1 M → sg_Bd (sg_rd S).1 M → F (sg_rd S).2 M) : mv_Wp G 54 [.inr (.inr 72), .inr (.inr 6)] (mh l) M0 (mv_qi (mh l) F) := by
  have hu := sg_nu hw
  have key : ∀ (n o : Nat) (M : mv_Mem), o + n = 3 * (S 0 3).toNat → sg_ru M0 M → sg_C 0 (sg_ro S o).1 M → sg_W (sg_ro S o).1 M → sg_Bd (sg_ro S o).1 M →
      mv_Run G 54 87 4749 13 [(0, .inr (.inr 72)), (1, .inr (.inr 6)), (2, .inr (.inr 17)), (3, .inl (sg_ro S o).2), (4, .inl (o : Int))] [] (mh l) M (mv_qi (mh l) F) := by
    intro n
    induction n with
    | zero =>
      intro o M hn hfr hC hW hB
      refine vr_X6_runRound_13 ?_
      have c1 : M 17 0 = S 0 3 := hC.2.2.2.2.1.1.trans (sg_ro_pq S o 0 3 (by decide))
      have e : o = 3 * (S 0 3).toNat := by omega
      rw [c1, if_pos (by omega)]
      refine ⟨by omega, sg_ro_01 S o, mv_qi_i ?_⟩
      subst e
      exact h M hfr hC hW hB
    | succ n ih =>
      intro o M hn hfr hC hW hB
      refine vr_X6_runRound_13 ?_
      have hwo := sg_ro_wf hw o
      have pq := sg_ro_pq S o
      have hnu : (sg_ro S o).1 0 3 = S 0 3 := pq 0 3 (by decide)
      have ho : o < 18 := by omega
      have c1 : M 17 0 = S 0 3 := hC.2.2.2.2.1.1.trans hnu
      have c2 : M 8 4 = (sg_ro S o).1 0 2 := hC.1.2.2.2.2
      have c3 : M 27 o = (sg_ro S o).1 19 o := (hC.2.2.2.2.2.2.1 o ho).2
      have e2 : Int.tmod (o : Int) 3 = ((o % 3 : Nat) : Int) := by rw [sg_tm (by omega)]; omega
      have K := ih (o + 1)
      have e3 : sg_ro S (o + 1) = ((sg_r1 (sg_ro S o).1 o).1, if (sg_r1 (sg_ro S o).1 o).2 = 1 then 1 else (sg_ro S o).2) := rfl
      rw [e3] at K
      unfold sg_r1 at K
      rw [c1, if_neg (by omega), Int.toNat_natCast, c3, c2, e2]
      generalize sg_ro S o = R at hC hW hB hwo pq c2 c3 K hnu
      refine ⟨by omega, by omega, ?_⟩
      have skip : ¬ ((0 < R.1 19 o ∧ ((o % 3 : Nat) : Int) < R.1 0 2) ∧ sg_clr R.1 o ≠ -9 ∧ sg_clr R.1 o ≠ R.1 16 o) → ∀ M1, sg_ru M0 M1 → sg_C 0 R.1 M1 → sg_W R.1 M1 → sg_Bd R.1 M1 →
          mv_Run G 54 87 4749 13 [(0, .inr (.inr 72)), (1, .inr (.inr 6)), (2, .inr (.inr 17)), (3, .inl R.2), (4, .inl ((o : Int) + 1))] [] (mh l) M1 (mv_qi (mh l) F) := by
        intro q M1 g1 g2 g3 g4
        have K1 := K M1 (by omega) g1
        rw [if_neg q] at K1
        rw [if_neg (show ¬ (0 : Int) = 1 by decide)] at K1
        exact K1 g2 g3 g4
      split
      · rename_i q
        exact ⟨by omega, skip (fun z => by have := z.1.1; omega) M hfr hC hW hB⟩
      · rename_i q
        refine ⟨by decide, ?_⟩
        split
        · rename_i q2
          exact ⟨by omega, skip (fun z => by have := z.1.2; omega) M hfr hC hW hB⟩
        · rename_i q2
          refine cl_clearingPrice hwo hC hW hB ho (by omega) (by omega) (fun M1 h1 => ?_)
          have hfr1 : sg_ru M0 M1 := fun a i a1 a2 a3 a4 => (h1 a i a3 a4).trans (hfr a i a1 a2 a3 a4)
          have hC1 : sg_C 0 R.1 M1 := sg_C_fr hC (fun c d1 d2 i => h1 c i (by omega) (by omega))
          have hW1 : sg_W R.1 M1 := sg_W_fr hW (fun c d1 d2 _ i => h1 c i (by omega) (by omega))
          have hB1 : sg_Bd R.1 M1 := sg_Bd_fr hB (fun i => h1 42 i (by decide) (by decide))
          have c4 : M1 26 o = R.1 16 o := (hC1.2.2.2.2.2.2.1 o ho).1
          rw [c4]
          split
          · rename_i q3
            exact ⟨by omega, skip (fun z => z.2.1 q3) M1 hfr1 hC1 hW1 hB1⟩
          · rename_i q3
            refine ⟨by omega, ?_⟩
            split
            · rename_i q4
              exact ⟨by omega, skip (fun z => z.2.2 q4) M1 hfr1 hC1 hW1 hB1⟩
            · rename_i q4
              have hx : 0 ≤ sg_clr R.1 o ∧ sg_clr R.1 o ≤ 999 := by
                rcases sg_clr_b R.1 o with z | z
                · exact absurd z q3
                · exact z
              have hw2 := sg_wf_16 (i := o) hwo hx
              refine ⟨by omega, cl_reckonOffer hw2 (sg_C_16 hC1) (sg_W_16 (sg_W_fr hW1 (fun c d1 d2 _ i => mv_up_n (fun z => by omega)))) ho (show ((o % 3 : Nat) : Int) < R.1 0 2 by omega) (fun M2 g1 g2 => ⟨by omega, ?_⟩)⟩
              have K1 := K M2 (by omega) (fun a i a1 a2 a3 a4 => by rw [g1 a i (fun z => a2 z.1), mv_up_n (fun z => a1 z.1)]; exact hfr1 a i a1 a2 a3 a4)
              rw [if_pos ⟨⟨by omega, by omega⟩, q3, q4⟩] at K1
              rw [if_pos (show (1 : Int) = 1 from rfl)] at K1
              refine K1 (sg_C_fr (sg_C_16 hC1) (fun c d1 d2 i => g1 c i (fun z => by omega))) (sg_W_fr (sg_W_16 hW1) (fun c d1 d2 _ i => by rw [g1 c i (fun z => by omega), mv_up_n (fun z => by omega)])) (fun j k j1 j2 j3 => ?_)
              by_cases z : j = o
              · rw [z]
                exact g2 k j3
              · have hp : sg_pl R.1 k < 48 := (sg_pl_lt hwo j3).2
                have hpe : sg_pl (mv_up R.1 16 o (sg_clr R.1 o)) k = sg_pl R.1 k := rfl
                rw [g1 42 _ (fun y => by rw [hpe] at y; omega), mv_up_n (fun y => by omega)]
                have b1 := hB1 j k j1 j2 j3
                rw [hpe, b1]
                exact (sg_bid_16n z).symm
  refine vw_X6_runRound ?_
  exact key (3 * (S 0 3).toNat) 0 M0 (by omega) (fun _ _ _ _ _ _ => rfl) hC hW hB
theorem cl_runRounds {M0 : mv_Mem} (hw : sg_wf S) (hC : sg_C 0 S M0) (hW : sg_W S M0) (hB : sg_Bd S M0) {N : Nat} (hN : 1 ≤ N ∧ N ≤ 20)
    (h : ∀ M, sg_ru M0 M → sg_wf (sg_rn S N).1 → sg_C 0 (sg_rn S N).1 M → sg_W (sg_rn S N).1 M → F (sg_rn S N).2 M) : mv_Wp G 53 [.inr (.inr 72), .inr (.inr 6), .inl (N : Int)] (mh l) M0 (mv_qi (mh l) F) := by
  have key : ∀ (n g : Nat) (S : mv_Mem) (M : mv_Mem), g + n = N → sg_ru M0 M → sg_wf S → sg_C 0 S M → sg_W S M → sg_Bd S M → (∀ M, sg_ru M0 M → sg_wf (sg_rn S n).1 → sg_C 0 (sg_rn S n).1 M → sg_W (sg_rn S n).1 M → F ((g : Int) + (sg_rn S n).2) M) →
      mv_Run G 53 87 4749 2 [(0, .inr (.inr 72)), (1, .inr (.inr 6)), (2, .inl (N : Int)), (3, .inl ((g : Int) + 1))] [] (mh l) M (mv_qi (mh l) F) := by
    intro n
    induction n with
    | zero =>
      intro g S M hn hfr hw hC hW hB h
      refine vr_X6_runRounds_2 ?_
      rw [if_pos (by omega)]
      have hh := h M hfr hw hC hW
      have e : (sg_rn S 0).2 = 0 := rfl
      rw [e, Int.add_zero, show (g : Int) = (N : Int) by omega] at hh
      exact mv_qi_i hh
    | succ n ih =>
      intro g S M hn hfr hw hC hW hB h
      refine vr_X6_runRounds_2 ?_
      rw [if_neg (by omega)]
      refine cl_runRound hw hC hW hB (fun M1 f1 hC1 hW1 hB1 => ?_)
      have hfr1 : sg_ru M0 M1 := fun a i a1 a2 a3 a4 => (f1 a i a1 a2 a3 a4).trans (hfr a i a1 a2 a3 a4)
      have e : sg_rn S (n + 1) = (if (sg_rd S).2 = 0 then ((sg_rd S).1, 1) else ((sg_rn (sg_rd S).1 n).1, (sg_rn (sg_rd S).1 n).2 + 1)) := rfl
      rw [e] at h
      split
      · rename_i q
        rw [if_pos q] at h
        exact mv_qi_i (h M1 hfr1 (sg_rd_wf hw) hC1 hW1)
      · rename_i q
        rw [if_neg q] at h
        refine ⟨by omega, ih (g + 1) (sg_rd S).1 M1 (by omega) hfr1 (sg_rd_wf hw) hC1 hW1 hB1 (fun M2 a b c d => ?_)⟩
        have := h M2 a b c d
        rw [show (((g + 1 : Nat)) : Int) + (sg_rn (sg_rd S).1 n).2 = (g : Int) + ((sg_rn (sg_rd S).1 n).2 + 1) by omega]
        exact this
  refine vw_X6_runRounds ?_
  exact key N 0 S M0 (by omega) (fun _ _ _ _ _ _ => rfl) hw hC hW hB (fun M a b c d => by
    rw [show ((0 : Nat) : Int) + (sg_rn S N).2 = (sg_rn S N).2 by omega]
    exact h M a b c d)
/-- the cell of the prices is put back -/
theorem sg_C_26 {M' : mv_Mem} (hC : sg_C 0 S M) (hm : ∀ c, 8 ≤ c → c ≤ 34 → c ≠ 26 → ∀ i, M' c i = M c i) (h26 : ∀ i, i < 18 → M' 26 i = S 16 i) : sg_C 0 S M' := by
  have h := sg_C_fr (M' := fun c i => if c = 26 then M c i else M' c i) hC (fun c h1 h2 i => by
    show (if c = 26 then M c i else M' c i) = M c i
    split
    · rfl
    · rename_i q
      exact hm c (by omega) (by omega) q i)
  exact ⟨h.1, h.2.1, h.2.2.1, h.2.2.2.1, h.2.2.2.2.1, h.2.2.2.2.2.1, fun i hi => ⟨h26 i hi, (h.2.2.2.2.2.2.1 i hi).2⟩, h.2.2.2.2.2.2.2⟩
theorem cl_rentsAfterRound (hw : sg_wf S) {M0 : mv_Mem} (hC : sg_C 0 S M0) (hW : sg_W S M0) (hB : sg_Bd S M0) {w : Int} (hp : ∀ i, i < 18 → M0 75 i = S 16 i) (hb : ∀ o k : Nat, (o : Int) < 3 * S 0 3 → ((o % 3 : Nat) : Int) < S 0 2 → sg_ok S k → M0 76 (48 * o + sg_pl S k) = sg_bid S o k)
    (h : ∀ M, sg_ru M0 M → sg_C 0 S M → sg_Bd S M → (∀ o k : Nat, (o : Int) < 3 * S 0 3 → ((o % 3 : Nat) : Int) < S 0 2 → sg_ok S k → M 42 (48 * o + sg_pl S k) = M0 76 (48 * o + sg_pl S k)) → F (sg_rb S w) M) :
    mv_Wp G 56 [.inr (.inr 72), .inr (.inr 6), .inl w] (mh l) M0 (mv_ql (mh l) F) := by
  refine vw_X6_rentsAfterRound ?_
  refine cl_runRound hw hC hW hB (fun M1 f1 hC1 hW1 hB1 => cl_rentsOf (sg_rd_wf hw) hC1 hB1 ⟨by decide, by decide, mv_ql_i ?_⟩)
  have hu := sg_nu hw
  have g42 : ∀ o k : Nat, (o : Int) < 3 * S 0 3 → ((o % 3 : Nat) : Int) < S 0 2 → sg_ok S k → (mv_cp (mv_cp M1 75 (Int.toNat 0) 26 (Int.toNat 0) (Int.toNat 18)) 76 (Int.toNat 0) 42 (Int.toNat 0) (Int.toNat 864)) 42 (48 * o + sg_pl S k) = M0 76 (48 * o + sg_pl S k) := by
    intro o k h1 h2 h3
    have hpl := (sg_pl_lt hw h3).2
    unfold mv_cp
    rw [if_pos ⟨rfl, Nat.zero_le _, show 48 * o + sg_pl S k < 0 + 864 by omega⟩]
    show (if (76 = 26 ∧ _) then _ else M1 76 (0 + (48 * o + sg_pl S k - 0))) = _
    rw [if_neg (fun z => by omega), Nat.zero_add, Nat.sub_zero]
    exact f1 76 _ (by decide) (by decide) (by decide) (by decide)
  have g26 : ∀ i, i < 18 → (mv_cp (mv_cp M1 75 (Int.toNat 0) 26 (Int.toNat 0) (Int.toNat 18)) 76 (Int.toNat 0) 42 (Int.toNat 0) (Int.toNat 864)) 26 i = S 16 i := by
    intro i hi
    unfold mv_cp
    rw [if_neg (fun z => by omega)]
    show (if (26 = 26 ∧ 0 ≤ i ∧ i < 0 + 18) then M1 75 (0 + (i - 0)) else _) = _
    rw [if_pos ⟨rfl, Nat.zero_le _, by omega⟩, Nat.zero_add, Nat.sub_zero]
    exact (f1 75 _ (by decide) (by decide) (by decide) (by decide)).trans (hp i hi)
  have gno : ∀ a i, a ≠ 26 → a ≠ 42 → (mv_cp (mv_cp M1 75 (Int.toNat 0) 26 (Int.toNat 0) (Int.toNat 18)) 76 (Int.toNat 0) 42 (Int.toNat 0) (Int.toNat 864)) a i = M1 a i := by
    intro a i a1 a2
    unfold mv_cp
    rw [if_neg (fun z => a2 z.1), if_neg (fun z => a1 z.1)]
  refine h _ (fun a i a1 a2 a3 a4 => (gno a i a1 a2).trans (f1 a i a1 a2 a3 a4)) (sg_C_26 hC (fun c d1 d2 d3 i => (gno c i d3 (by omega)).trans (f1 c i d3 (by omega) (by omega) (by omega))) g26) (fun o k h1 h2 h3 => (g42 o k h1 h2 h3).trans (hb o k h1 h2 h3)) g42
/-! an acre that is held -/
theorem sg_wf_4 (hw : sg_wf S) {i : Nat} {v : Int} (hv : 0 ≤ v ∧ v ≤ 1) : sg_wf (mv_up S 4 i v) := by
  refine ⟨hw.1, ⟨hw.2.1.1, hw.2.1.2.1, hw.2.1.2.2.1, fun j hj => ?_, hw.2.1.2.2.2.2⟩, hw.2.2⟩
  by_cases q : j = i
  · rw [q, mv_up_s]
    exact hv
  · rw [mv_up_n (fun z => q z.2)]
    exact hw.2.1.2.2.2.1 j hj
theorem sg_C_4 (hw : sg_wf S) (hC : sg_C 0 S M) {k : Nat} {v : Int} (hk : sg_ok S k) : sg_C 0 (mv_up S 4 k v) (mv_up M 13 (sg_pl S k) v) := by
  refine ⟨hC.1, fun j hj => ?_, hC.2.2.1, hC.2.2.2.1, hC.2.2.2.2.1, fun j hj => have q := hC.2.2.2.2.2.1 j hj; ⟨q.1, q.2.1, q.2.2.1, q.2.2.2.1, q.2.2.2.2.1, q.2.2.2.2.2.1, q.2.2.2.2.2.2.1, sg_C_ys (M := M) (by decide) (by decide) q.2.2.2.2.2.2.2⟩, hC.2.2.2.2.2.2⟩
  obtain ⟨q1, q2, q3, q4, q5, q6⟩ := hC.2.1 j hj
  refine ⟨q1, q2, q3, q4, ?_, q6⟩
  show mv_up M 13 (sg_pl S k) v 13 (sg_pl S j) = mv_up S 4 k v 4 j
  by_cases q : j = k
  · rw [q, mv_up_s, mv_up_s]
  · rw [mv_up_n (fun z => q z.2), mv_up_n (fun z => q (sg_pl_inj hw hj hk z.2))]
    exact q5
theorem sg_bid_u {c i o k : Nat} {v : Int} (h : c = 4 ∨ c = 3) : sg_bid (mv_up S c i v) o k = sg_bid S o k := by
  rcases h with rfl | rfl
  · show sg_if (sg_cg S (o / 3) (sg_wo S o k)) (100 * (sg_yl S (o / 3) (S 1 k) * (S 16 o + sg_mn (mv_up S 4 i v) (o / 3)) - S 11 (o / 3) - S 13 (o / 3)) - sg_cr S (o / 3) (S 1 k) * sg_wo S o k) 0 = _
    rw [sg_mn_u (by decide) (by decide)]
    rfl
  · show sg_if (sg_cg S (o / 3) (sg_wo S o k)) (100 * (sg_yl S (o / 3) (S 1 k) * (S 16 o + sg_mn (mv_up S 3 i v) (o / 3)) - S 11 (o / 3) - S 13 (o / 3)) - sg_cr S (o / 3) (S 1 k) * sg_wo S o k) 0 = _
    rw [sg_mn_u (by decide) (by decide)]
    rfl
theorem sg_hd_no {w : Int} {n : Nat} (h : sg_ac S n = -1) : sg_hd S w (n + 1) = sg_hd S w n := if_neg (fun z => by have := z.1; omega)
theorem sg_hd_w (hw : sg_wf S) {w : Int} : ∀ m n : Nat, 10 * S 0 0 ≤ (n : Int) → sg_hd S w (n + m) = sg_hd S w n
  | 0, _, _ => rfl
  | m + 1, n, h => by
    rw [show n + (m + 1) = (n + m) + 1 by omega, sg_hd_no (sg_ac_no (fun z => by have := z.2.1; omega))]
    exact sg_hd_w hw m n h
theorem cl_bestToHold (hw : sg_wf S) {M0 : mv_Mem} (hC : sg_C 0 S M0) (hW : sg_W S M0) (hB : sg_Bd S M0) (hT : sg_Tk S M0) {w : Int}
    (h : ∀ M, (∀ a i, a ≠ 26 → a ≠ 42 → a ≠ 13 → ¬ (73 ≤ a ∧ a ≤ 76) → M a i = M0 a i) → sg_C 0 S M → sg_Bd S M → F (sg_hd S w 80).2 M) :
    mv_Wp G 55 [.inr (.inr 72), .inr (.inr 6), .inl w] (mh l) M0 (mv_qi (mh l) F) := by
  have hu := sg_nu hw
  have hwd := hw.1.1
  refine vw_X6_bestToHold ?_
  refine ⟨by decide, by decide, ?_⟩
  -- what is so through all
  have key : ∀ (n x : Nat) (M : mv_Mem), (x : Int) + n = 10 * S 0 0 → (∀ a i, a ≠ 26 → a ≠ 42 → a ≠ 13 → ¬ (73 ≤ a ∧ a ≤ 76) → M a i = M0 a i) → sg_C 0 S M → sg_Bd S M → (∀ i, i < 18 → M 75 i = S 16 i) → (∀ o k : Nat, (o : Int) < 3 * S 0 3 → ((o % 3 : Nat) : Int) < S 0 2 → sg_ok S k → M 76 (48 * o + sg_pl S k) = sg_bid S o k) →
      mv_Run G 55 87 4749 60 [(0, .inr (.inr 72)), (1, .inr (.inr 6)), (2, .inl w), (3, .inr (.inr 8)), (4, .inr (.inl (sg_hd S w x).1)), (6, .inl (sg_hd S w x).2), (7, .inl (x : Int))] [] (mh l) M (mv_qi (mh l) F) := by
    intro n
    induction n with
    | zero =>
      intro x M hn hfr hCM hBM h75 h76
      refine vr_X6_bestToHold_60 ?_
      have c1 : M 8 0 = S 0 0 := hCM.1.1
      have hh := h M hfr hCM hBM
      have e := sg_hd_w hw (w := w) (80 - x) x (by omega)
      rw [show x + (80 - x) = 80 by omega] at e
      rw [e] at hh
      rw [c1, if_pos (by omega)]
      exact ⟨by omega, mv_qi_i hh⟩
    | succ n ih =>
      intro x M hn hfr hCM hBM h75 h76
      refine vr_X6_bestToHold_60 ?_
      have c1 : M 8 0 = S 0 0 := hCM.1.1
      have hTM : sg_Tk S M := sg_Tk_fr hT (fun i => hfr 43 i (by decide) (by decide) (by decide) (by omega))
      have hWM : sg_W S M := sg_W_fr hW (fun c d1 d2 _ i => hfr c i (by omega) (by omega) (by omega) (by omega))
      rw [c1, if_neg (by omega)]
      have e : sg_hd S w (x + 1) = (if 0 ≤ sg_ac S x ∧ S 3 (sg_ac S x).toNat = w ∧ sg_tk S (sg_ac S x).toNat ≠ -1 ∧ (sg_hd S w x).1 < sg_rb (mv_up S 4 (sg_ac S x).toNat 1) w then (sg_rb (mv_up S 4 (sg_ac S x).toNat 1) w, (x : Int)) else sg_hd S w x) := rfl
      have K := fun M' => ih (x + 1) M' (by omega)
      rw [e] at K
      have skip : ¬ (0 ≤ sg_ac S x ∧ S 3 (sg_ac S x).toNat = w ∧ sg_tk S (sg_ac S x).toNat ≠ -1 ∧ (sg_hd S w x).1 < sg_rb (mv_up S 4 (sg_ac S x).toNat 1) w) → mv_R32 ((x : Int) + 1) ∧ mv_Run G 55 87 4749 60 [(0, .inr (.inr 72)), (1, .inr (.inr 6)), (2, .inl w), (3, .inr (.inr 8)), (4, .inr (.inl (sg_hd S w x).1)), (6, .inl (sg_hd S w x).2), (7, .inl ((x : Int) + 1))] [] (mh l) M (mv_qi (mh l) F) := by
        intro q
        have K1 := K M hfr hCM hBM h75 h76
        rw [if_neg q] at K1
        exact ⟨by omega, K1⟩
      refine ⟨by omega, cl_placeOf hw hCM (by omega) ?_⟩
      unfold sg_pa
      by_cases hac : 0 ≤ sg_ac S x
      · obtain ⟨hk, hk48, -⟩ := sg_ac_ok hw hac
        generalize (sg_ac S x).toNat = k at hk hk48 e K skip
        have hp := (sg_pl_lt hw hk).2
        have c2 : M 12 (sg_pl S k) = S 3 k := (hCM.2.1 k hk).2.2.2.1
        rw [if_pos hac, if_neg (by omega), Int.toNat_natCast, c2, hTM k hk]
        refine ⟨by omega, ?_⟩
        split
        · rename_i q1
          refine ⟨by omega, ?_⟩
          split
          · rename_i q2
            exact skip (fun z => z.2.2.1 q2)
          · rename_i q2
            have hh0 : S 4 k = 0 := by
              have q3 := q2
              unfold sg_tk at q3
              split at q3
              · assumption
              · exact absurd rfl q3
            have hw' := sg_wf_4 (i := k) hw (show (0 : Int) ≤ 1 ∧ (1 : Int) ≤ 1 by decide)
            have hC' : sg_C 0 (mv_up S 4 k 1) (mv_up M 13 (sg_pl S k) 1) := sg_C_4 hw hCM hk
            have hW' : sg_W (mv_up S 4 k 1) (mv_up M 13 (sg_pl S k) 1) := by
              have : sg_W S (mv_up M 13 (sg_pl S k) 1) := sg_W_fr hWM (fun c d1 d2 _ i => mv_up_n (fun z => by omega))
              exact this
            have hB' : sg_Bd (mv_up S 4 k 1) (mv_up M 13 (sg_pl S k) 1) := by
              intro o j h1 h2 h3
              rw [sg_bid_u (Or.inl rfl), mv_up_n (fun z => by omega)]
              exact hBM o j h1 h2 h3
            refine ⟨by omega, cl_rentsAfterRound hw' hC' hW' hB' (fun i hi => h75 i hi) (fun o j h1 h2 h3 => by rw [sg_bid_u (Or.inl rfl)]; exact h76 o j h1 h2 h3) (fun M2 f2 hC2 hB2 g42 => ⟨by omega, ?_⟩)⟩
            have hfr2 : ∀ a i, a ≠ 26 → a ≠ 42 → a ≠ 13 → ¬ (73 ≤ a ∧ a ≤ 76) → (mv_up M2 13 (sg_pl S k) 0) a i = M0 a i := by
              intro a i a1 a2 a3 a4
              rw [mv_up_n (fun z => a3 z.1), f2 a i a1 a2 (by omega) (by omega), mv_up_n (fun z => a3 z.1)]
              exact hfr a i a1 a2 a3 a4
            have hCb : sg_C 0 S (mv_up M2 13 (sg_pl S k) 0) := by
              have h1 := sg_C_4 (v := 0) hw' hC2 (k := k) hk
              have h2 : mv_up (mv_up S 4 k 1) 4 k 0 = S := by
                funext a i
                unfold mv_up
                by_cases z : a = 4 ∧ i = k
                · rw [if_pos z, z.1, z.2, hh0]
                · rw [if_neg z, if_neg z]
              rw [h2] at h1
              exact h1
            have hBb : sg_Bd S (mv_up M2 13 (sg_pl S k) 0) := by
              intro o j h1 h2 h3
              rw [mv_up_n (fun z => by omega)]
              have := hB2 o j h1 h2 h3
              rw [sg_bid_u (Or.inl rfl)] at this
              exact this
            have h75b : ∀ i, i < 18 → (mv_up M2 13 (sg_pl S k) 0) 75 i = S 16 i := fun i hi => by
              rw [mv_up_n (fun z => by omega), f2 75 i (by decide) (by decide) (by decide) (by decide)]
              exact h75 i hi
            have h76b : ∀ o j : Nat, (o : Int) < 3 * S 0 3 → ((o % 3 : Nat) : Int) < S 0 2 → sg_ok S j → (mv_up M2 13 (sg_pl S k) 0) 76 (48 * o + sg_pl S j) = sg_bid S o j := fun o j h1 h2 h3 => by
              rw [mv_up_n (fun z => by omega), f2 76 _ (by decide) (by decide) (by decide) (by decide)]
              exact h76 o j h1 h2 h3
            have K1 := K _ hfr2 hCb hBb h75b h76b
            simp only [mv_cmp_le]
            split
            · rename_i q3
              rw [if_neg (fun z => by have := z.2.2.2; omega)] at K1
              exact ⟨by omega, K1⟩
            · rename_i q3
              rw [if_pos ⟨hac, q1, q2, by omega⟩] at K1
              exact ⟨by omega, K1⟩
        · rename_i q1
          exact skip (fun z => q1 z.2.1)
      · rw [if_neg hac, if_pos rfl]
        exact skip (fun z => hac z.1)
  have h75 : ∀ i, i < 18 → (mv_cp (mv_cp M0 26 (Int.toNat 0) 75 (Int.toNat 0) (Int.toNat 18)) 42 (Int.toNat 0) 76 (Int.toNat 0) (Int.toNat 864)) 75 i = S 16 i := by
    intro i hi
    unfold mv_cp
    rw [if_neg (fun z => by omega)]
    show (if (75 = 75 ∧ 0 ≤ i ∧ i < 0 + 18) then M0 26 (0 + (i - 0)) else _) = _
    rw [if_pos ⟨rfl, Nat.zero_le _, by omega⟩, Nat.zero_add, Nat.sub_zero]
    exact (hC.2.2.2.2.2.2.1 i hi).1
  have gno : ∀ a i, a ≠ 75 → a ≠ 76 → (mv_cp (mv_cp M0 26 (Int.toNat 0) 75 (Int.toNat 0) (Int.toNat 18)) 42 (Int.toNat 0) 76 (Int.toNat 0) (Int.toNat 864)) a i = M0 a i := by
    intro a i a1 a2
    unfold mv_cp
    rw [if_neg (fun z => a2 z.1), if_neg (fun z => a1 z.1)]
  have h76 : ∀ o k : Nat, (o : Int) < 3 * S 0 3 → ((o % 3 : Nat) : Int) < S 0 2 → sg_ok S k → (mv_cp (mv_cp M0 26 (Int.toNat 0) 75 (Int.toNat 0) (Int.toNat 18)) 42 (Int.toNat 0) 76 (Int.toNat 0) (Int.toNat 864)) 76 (48 * o + sg_pl S k) = sg_bid S o k := by
    intro o k h1 h2 h3
    have hpl := (sg_pl_lt hw h3).2
    unfold mv_cp
    rw [if_pos ⟨rfl, Nat.zero_le _, show 48 * o + sg_pl S k < 0 + 864 by omega⟩]
    show (if (42 = 75 ∧ _) then _ else M0 42 (0 + (48 * o + sg_pl S k - 0))) = _
    rw [if_neg (fun z => by omega), Nat.zero_add, Nat.sub_zero]
    exact hB o k h1 h2 h3
  have hC1 := sg_C_fr hC (fun c d1 d2 i => gno c i (by omega) (by omega))
  have hB1 : sg_Bd S _ := sg_Bd_fr hB (fun i => gno 42 i (by decide) (by decide))
  refine cl_rentsAfterRound hw hC1 (sg_W_fr hW (fun c d1 d2 _ i => gno c i (by omega) (by omega))) hB1 h75 h76 (fun M1 f1 hC2 hB2 g42 => ?_)
  exact key (10 * S 0 0).toNat 0 M1 (by omega) (fun a i a1 a2 a3 a4 => (f1 a i a1 a2 (by omega) (by omega)).trans (gno a i (by omega) (by omega))) hC2 hB2 (fun i hi => (f1 75 i (by decide) (by decide) (by decide) (by decide)).trans (h75 i hi)) (fun o k h1 h2 h3 => (f1 76 _ (by decide) (by decide) (by decide) (by decide)).trans (h76 o k h1 h2 h3))
end RO
