/-! THE MODEL's CLEARING PRICE AND ROUNDS -/
section MT
variable {S : mv_Mem} {G : mv_G} {l : Nat} {M : mv_Mem} {F : Int → mv_Mem → Prop}
theorem sg_fo_b {f : Nat → Int → Int} {a b : Int} (hb : 0 ≤ b) (hf : ∀ k x, sg_ok S k → x ≤ f k x ∧ f k x ≤ x + b) : ∀ n : Nat, a ≤ sg_fo S f a n ∧ sg_fo S f a n ≤ a + b * (n : Int) := by
  intro n
  induction n with
  | zero =>
    have : sg_fo S f a 0 = a := rfl
    rw [this]
    omega
  | succ n ih =>
    have e2 : b * ((n + 1 : Nat) : Int) = b * (n : Int) + b := by rw [Int.natCast_add, Int.mul_add]; omega
    rw [e2]
    by_cases q : sg_ok S n
    · rw [sg_fo_s q]
      have h2 := hf n (sg_fo S f a n) q
      omega
    · rw [sg_fo_n q]
      omega
theorem sg_Rl_c {S' : mv_Mem} {n : Nat} (h0 : ∀ i, S' 0 i = S 0 i) (h5 : ∀ i, S' 5 i = S 5 i) (h : sg_Rl S M n) : sg_Rl S' M n := by
  have ok : ∀ k, sg_ok S' k ↔ sg_ok S k := fun k => by
    unfold sg_ok
    rw [h0, h0]
  have has : ∀ k d, sg_has S' k d ↔ sg_has S k d := fun k d => by
    unfold sg_has
    rw [h0, h0]
  unfold sg_Rl
  simp only [ok, has, h5]
  exact h
theorem sg_Mo_16 (hM : sg_Mo S M) {i : Nat} {v : Int} : sg_Mo (mv_up S 16 i v) (mv_up M 113 i v) :=
  ⟨hM.1, hM.2.1, hM.2.2.1, hM.2.2.2.1, hM.2.2.2.2.1, hM.2.2.2.2.2.1, hM.2.2.2.2.2.2.1, hM.2.2.2.2.2.2.2.1, fun j hj => ⟨mv_up_sm (hM.2.2.2.2.2.2.2.2.1 j hj).1, (hM.2.2.2.2.2.2.2.2.1 j hj).2⟩, hM.2.2.2.2.2.2.2.2.2⟩
theorem md_findOthers (hw : sg_wf S) {M0 : mv_Mem} {F : mv_Mem → Prop} (hM : sg_Mo S M0) (hW : sg_MW S M0) {k u0 m0 : Nat} (hk : k < 48) (hm0 : m0 < 3)
    (h : ∀ M, sg_fx k M0 M → (sg_ok S k → sg_F3 S M ((3 * u0 + m0 : Nat) : Int) k (3 * (S 0 3).toNat)) → F M) :
    mv_Wp G 185 [.inr (.inr 88), .inl (k : Int), .inl (u0 : Int), .inl (m0 : Int)] (mh l) M0 (mv_qv (mh l) F) := by
  have hnu := sg_nu hw
  have hm3 := hw.1.2.2.1
  obtain ⟨mk, hmk⟩ := sg_nat hm3.1
  have main : sg_ok S k → ∀ (q u : Nat) (M : mv_Mem), ((u + q : Nat) : Int) = S 0 3 → sg_fx k M0 M → sg_F3 S M ((3 * u0 + m0 : Nat) : Int) k (3 * u) → mv_Run G 185 136 7420 26 [(0, .inr (.inr 88)), (1, .inl (k : Int)), (2, .inl (u0 : Int)), (3, .inl (m0 : Int)), (4, .inl (u : Int))] [] (mh l) M (mv_qv (mh l) F) := by
    intro hok q
    induction q with
    | zero =>
      intro u M hu hfr h3
      refine vr_X12_findOthers_26 ?_
      obtain ⟨hMM, hWM⟩ := sg_fx_o hM hW hfr
      have c1 : M 88 36 = S 0 3 := hMM.1.2.2.2.1
      rw [c1, if_pos (by omega)]
      have e : u = (S 0 3).toNat := by omega
      subst e
      exact mv_qv_i (h M hfr (fun _ => h3))
    | succ q ih =>
      intro u M hu hfr h3
      refine vr_X12_findOthers_26 ?_
      obtain ⟨hMM, hWM⟩ := sg_fx_o hM hW hfr
      have c1 : M 88 36 = S 0 3 := hMM.1.2.2.2.1
      rw [c1, if_neg (by omega)]
      refine md_isAcre hw hMM (fun _ => ?_) (fun z => absurd hok z)
      rw [if_neg (by decide)]
      have inner : ∀ (r m : Nat) (M : mv_Mem), m + r = mk → sg_fx k M0 M → sg_F3 S M ((3 * u0 + m0 : Nat) : Int) k (3 * u + m) → mv_Run G 185 136 7420 46 [(0, .inr (.inr 88)), (1, .inl (k : Int)), (2, .inl (u0 : Int)), (3, .inl (m0 : Int)), (4, .inl (u : Int)), (5, .inl (m : Int))] [] (mh l) M (mv_qv (mh l) F) := by
        intro r
        induction r with
        | zero =>
          intro m M hm hfr h3
          refine vr_X12_findOthers_46 ?_
          obtain ⟨hMM, hWM⟩ := sg_fx_o hM hW hfr
          have c2 : M 88 23 = S 0 2 := hMM.1.2.2.1
          rw [c2, if_pos (by omega)]
          refine ⟨by omega, ih (u + 1) M (by omega) hfr (sg_F3_e h3 ?_)⟩
          have := sg_g_skip (S := S) (w := ((3 * u0 + m0 : Nat) : Int)) (k := k) (3 - m) (3 * u + m) (fun i h1 h2 => by omega)
          rw [show 3 * u + m + (3 - m) = 3 * (u + 1) by omega] at this
          exact this
        | succ r ihr =>
          intro m M hm hfr h3
          refine vr_X12_findOthers_46 ?_
          obtain ⟨hMM, hWM⟩ := sg_fx_o hM hW hfr
          have c2 : M 88 23 = S 0 2 := hMM.1.2.2.1
          rw [c2, if_neg (by omega), Int.toNat_natCast]
          have other : ¬ (u = u0 ∧ m = m0) → mv_Wp G 170 [.inr (.inr 88), .inl (u : Int), .inl (k : Int), .inl (m : Int)] (mh l) M (mv_ql (mh l) fun x1 M1 =>
              (0 ≤ (k : Int) ∧ (k : Int) < ((48 : Nat) : Int)) ∧
              (if 0 < (mv_cmp x1 (M1 119 k)) then
                (0 ≤ (k : Int) ∧ (k : Int) < ((48 : Nat) : Int)) ∧
                (0 ≤ (k : Int) ∧ (k : Int) < ((48 : Nat) : Int)) ∧
                (0 ≤ (k : Int) ∧ (k : Int) < ((48 : Nat) : Int)) ∧
                mv_R32 ((m : Int) + 1) ∧
                mv_Run G 185 136 7420 46 [(0, .inr (.inr 88)), (1, .inl (k : Int)), (2, .inl (u0 : Int)), (3, .inl (m0 : Int)), (4, .inl (u : Int)), (5, .inl ((m : Int) + 1))] [] (mh l) (mv_up (mv_up (mv_up M1 119 k x1) 117 k (u : Int)) 118 k (m : Int)) (mv_qv (mh l) F)
              else
                mv_R32 ((m : Int) + 1) ∧
                mv_Run G 185 136 7420 46 [(0, .inr (.inr 88)), (1, .inl (k : Int)), (2, .inl (u0 : Int)), (3, .inl (m0 : Int)), (4, .inl (u : Int)), (5, .inl ((m : Int) + 1))] [] (mh l) M1 (mv_qv (mh l) F))) := by
            intro hne
            refine md_bidOf hMM hWM hw (by omega) hok (by omega) ?_
            simp only [mv_cmp_gt]
            rw [h3.2.2]
            refine ⟨by omega, ?_⟩
            split
            · rename_i z
              have e : sg_g S ((3 * u0 + m0 : Nat) : Int) k (3 * u + (m + 1)) = (((3 * u + m : Nat) : Int), sg_bid S (3 * u + m) k) := by
                show sg_g S ((3 * u0 + m0 : Nat) : Int) k ((3 * u + m) + 1) = _
                conv => lhs; unfold sg_g
                rw [if_pos ⟨by omega, by omega, z⟩]
              refine ⟨by omega, by omega, by omega, by omega, ihr (m + 1) _ (by omega) (fun a i ha => by rw [mv_up_n (fun z => ha (by omega)), mv_up_n (fun z => ha (by omega)), mv_up_n (fun z => ha (by omega))]; exact hfr a i ha) ?_⟩
              unfold sg_F3
              rw [e]
              dsimp only
              rw [sg_u3_n, sg_m3_n]
              refine ⟨?_, ?_, ?_⟩
              · rw [mv_up_c (by decide), mv_up_s]
                omega
              · rw [mv_up_s]
                omega
              · rw [mv_up_c (by decide), mv_up_c (by decide), mv_up_s]
            · rename_i z
              refine ⟨by omega, ihr (m + 1) M (by omega) hfr (sg_F3_e h3 ?_)⟩
              show sg_g S ((3 * u0 + m0 : Nat) : Int) k ((3 * u + m) + 1) = _
              conv => lhs; unfold sg_g
              rw [if_neg (fun y => z y.2.2)]
          by_cases q1 : (u : Int) = (u0 : Int)
          · rw [if_pos q1]
            by_cases q2 : (m : Int) = (m0 : Int)
            · rw [if_pos q2]
              have h0 := sg_g_0 S ((3 * u0 + m0 : Nat) : Int) k (3 * u + m)
              have hno : ¬ 0 < mv_cmp 0 (M 119 k) := by
                rw [mv_cmp_gt, h3.2.2]
                omega
              rw [if_neg hno]
              refine ⟨by omega, by omega, ihr (m + 1) M (by omega) hfr (sg_F3_e h3 ?_)⟩
              show sg_g S ((3 * u0 + m0 : Nat) : Int) k ((3 * u + m) + 1) = _
              conv => lhs; unfold sg_g
              rw [if_neg (fun y => y.2.1 (by omega))]
            · rw [if_neg q2]
              exact other (by omega)
          · rw [if_neg q1]
            exact other (by omega)
      exact inner mk 0 M (by omega) hfr h3
  refine vw_X12_findOthers ?_
  rw [Int.toNat_natCast]
  refine ⟨by omega, by omega, by omega, ?_⟩
  have hfr : sg_fx k M0 (mv_up (mv_up (mv_up M0 117 k (-9)) 118 k (-9)) 119 k 0) := fun a i ha => by rw [mv_up_n (fun z => ha (by omega)), mv_up_n (fun z => ha (by omega)), mv_up_n (fun z => ha (by omega))]
  have g1 : (mv_up (mv_up (mv_up M0 117 k (-9)) 118 k (-9)) 119 k 0) 117 k = -9 := by rw [mv_up_c (by decide), mv_up_c (by decide), mv_up_s]
  have g2 : (mv_up (mv_up (mv_up M0 117 k (-9)) 118 k (-9)) 119 k 0) 118 k = -9 := by rw [mv_up_c (by decide), mv_up_s]
  have g3 : (mv_up (mv_up (mv_up M0 117 k (-9)) 118 k (-9)) 119 k 0) 119 k = 0 := mv_up_s
  obtain ⟨hMM, hWM⟩ := sg_fx_o hM hW hfr
  by_cases hok : sg_ok S k
  · exact main hok (S 0 3).toNat 0 _ (by omega) hfr ⟨g1, g2, g3⟩
  · have fin := h _ hfr (fun z => absurd z hok)
    refine vr_X12_findOthers_26 ?_
    split
    · exact mv_qv_i fin
    · refine md_isAcre hw hMM (fun z => absurd z hok) (fun _ => ?_)
      rw [if_pos rfl]
      exact mv_qv_i fin
theorem md_wouldGo (hw : sg_wf S) (hM : sg_Mo S M) (hW : sg_MW S M) {k u m : Nat} (hk : k < 48) (hu : (u : Int) < S 0 3) (hm : (m : Int) < S 0 2) (h3 : sg_ok S k → sg_F3 S M ((3 * u + m : Nat) : Int) k (3 * (S 0 3).toNat))
    (h1 : sg_ok S k → sg_go S (3 * u + m) k → F 1 M) (h0 : ¬ (sg_ok S k ∧ sg_go S (3 * u + m) k) → F 0 M) :
    mv_Wp G 183 [.inr (.inr 88), .inl (k : Int), .inl (u : Int), .inl (m : Int)] (mh l) M (mv_qi (mh l) F) := by
  have hnu := sg_nu hw
  have hm3 := hw.1.2.2.1
  refine vw_X12_wouldGo (md_isAcre hw hM (fun hok => ?_) (fun hok => ?_))
  · have c95 : M 95 k = S 4 k := (hM.2.1 k hok).2.2.2
    obtain ⟨f1, f2, f3⟩ := h3 hok
    rw [if_neg (by decide), Int.toNat_natCast, c95]
    refine ⟨by omega, ?_⟩
    split
    · rename_i q4
      refine md_bidOf hM hW hw (by omega) hok hm ?_
      simp only [mv_cmp_le, mv_cmp_ge, mv_cmp_gt]
      rw [f1, f2, f3]
      have hgo : sg_go S (3 * u + m) k ↔ 0 < sg_bid S (3 * u + m) k ∧ ((sg_g S ((3 * u + m : Nat) : Int) k (3 * (S 0 3).toNat)).2 < sg_bid S (3 * u + m) k ∨ (sg_bid S (3 * u + m) k = (sg_g S ((3 * u + m : Nat) : Int) k (3 * (S 0 3).toNat)).2 ∧ ((3 * u + m : Nat) : Int) < (sg_g S ((3 * u + m : Nat) : Int) k (3 * (S 0 3).toNat)).1)) := ⟨fun z => z.2, fun z => ⟨q4, z⟩⟩
      have no : ¬ sg_go S (3 * u + m) k → F 0 M := fun z => h0 (fun y => z y.2)
      rw [hgo] at no
      have yes := fun z => h1 hok (hgo.2 z)
      have hcase := sg_g_i S ((3 * u + m : Nat) : Int) k (3 * (S 0 3).toNat)
      generalize sg_g S ((3 * u + m : Nat) : Int) k (3 * (S 0 3).toNat) = g at *
      split
      · exact ⟨by decide, mv_qi_i (no (by omega))⟩
      · rename_i qb
        refine ⟨by omega, ?_⟩
        split
        · rename_i q5
          refine ⟨by omega, ?_⟩
          split
          · rename_i q6
            exact ⟨by decide, mv_qi_i (yes ⟨by omega, Or.inl q6⟩)⟩
          · rename_i q6
            rcases hcase with hc | ⟨o, o1, o2, o3, o4, o5⟩
            · rw [hc] at q5 q6
              dsimp only at q5 q6
              omega
            · have eg1 : g.1 = (o : Int) := by rw [o4]
              rw [eg1] at yes no ⊢
              rw [sg_u3_n, sg_m3_n]
              refine ⟨by omega, ?_⟩
              split
              · exact ⟨by decide, mv_qi_i (yes ⟨by omega, Or.inr ⟨by omega, by omega⟩⟩)⟩
              · refine ⟨by omega, ?_⟩
                split
                · refine ⟨by omega, ?_⟩
                  split
                  · exact ⟨by decide, mv_qi_i (no (fun z => by rcases z.2 with z | z <;> omega))⟩
                  · exact ⟨by decide, mv_qi_i (yes ⟨by omega, Or.inr ⟨by omega, by omega⟩⟩)⟩
                · exact ⟨by decide, mv_qi_i (no (fun z => by rcases z.2 with z | z <;> omega))⟩
        · rename_i q5
          exact ⟨by decide, mv_qi_i (no (fun z => by rcases z.2 with z | z <;> omega))⟩
    · rename_i q4
      exact ⟨by decide, mv_qi_i (h0 (fun z => q4 z.2.1))⟩
  · rw [if_pos rfl]
    exact ⟨by decide, mv_qi_i (h0 (fun z => hok z.1))⟩
theorem md_clearsOf (hw : sg_wf S) {M0 : mv_Mem} {n u m : Nat} (hM : sg_Mo S M0) (hR : sg_Rl S M0 n) (hu : (u : Int) < S 0 3) (hm : (m : Int) < S 0 2) (h : ∀ M, sg_fq M0 M → F (sg_clr S (3 * u + m)) M) :
    mv_Wp G 184 [.inr (.inr 88), .inl (u : Int), .inl (m : Int)] (mh l) M0 (mv_qi (mh l) F) := by
  have hnu := sg_nu hw
  have hm3 := hw.1.2.2.1
  have ho : 3 * u + m < 18 := by omega
  have eo : Int.toNat (3 * (u : Int) + (m : Int)) = 3 * u + m := by omega
  have c113 : M0 113 (3 * u + m) = S 16 (3 * u + m) := (hM.2.2.2.2.2.2.2.2.1 _ ho).1
  -- the price is tried
  have tries : ∀ M1 : mv_Mem, sg_fq M0 M1 → sg_MW S M1 → (∀ k, k < 48 → sg_ok S k → sg_F3 S M1 ((3 * u + m : Nat) : Int) k (3 * (S 0 3).toNat)) → ∀ (q v : Nat) (M : mv_Mem), v + q = 1000 → (∀ a i, ¬ (a = 113 ∧ i = 3 * u + m) → M a i = M1 a i) → sg_cf (fun v => sg_bo S (3 * u + m) (v : Int) ≤ sg_cm (mv_up S 16 (3 * u + m) (v : Int)) (3 * u + m)) v = -9 →
      mv_Run G 184 136 7420 49 [(0, .inr (.inr 88)), (1, .inl (u : Int)), (2, .inl (m : Int)), (3, .inl (3 * (u : Int) + (m : Int))), (4, .inl (S 16 (3 * u + m))), (5, .inl (-9)), (6, .inl (v : Int))] [] (mh l) M (mv_qi (mh l) F) := by
    intro M1 f1 W1 F3 q
    have hM1 : sg_Mo S M1 := (sg_fq_o hM hR f1).1
    have put : ∀ M : mv_Mem, (∀ a i, ¬ (a = 113 ∧ i = 3 * u + m) → M a i = M1 a i) → sg_fq M0 (mv_up M 113 (3 * u + m) (S 16 (3 * u + m))) := fun M hfr a i a1 a2 a3 => by
      by_cases z : a = 113 ∧ i = 3 * u + m
      · rw [z.1, z.2, mv_up_s]
        exact c113.symm
      · rw [mv_up_n z, hfr a i z]
        exact f1 a i a1 a2 a3
    induction q with
    | zero =>
      intro v M hv hfr hcf
      refine vr_X12_clearsOf_49 ?_
      rw [if_pos (by omega), eo]
      have e : v = 1000 := by omega
      subst e
      have hh := h _ (put M hfr)
      have e2 : sg_clr S (3 * u + m) = -9 := hcf
      rw [e2] at hh
      exact ⟨by omega, mv_qi_i hh⟩
    | succ q ih =>
      intro v M hv hfr hcf
      refine vr_X12_clearsOf_49 ?_
      rw [if_neg (by omega), if_pos rfl, eo]
      refine ⟨by omega, ?_⟩
      have hwv := sg_wf_16 (i := 3 * u + m) (v := (v : Int)) hw (by omega)
      have hfrv : ∀ a i, ¬ (a = 113 ∧ i = 3 * u + m) → (mv_up M 113 (3 * u + m) (v : Int)) a i = M1 a i := fun a i z => by
        rw [mv_up_n z]
        exact hfr a i z
      have hMv : sg_Mo (mv_up S 16 (3 * u + m) (v : Int)) (mv_up M 113 (3 * u + m) (v : Int)) := by
        have : (mv_up M 113 (3 * u + m) (v : Int)) = mv_up M1 113 (3 * u + m) (v : Int) := by
          funext a i
          unfold mv_up
          split
          · rfl
          · rename_i z
            exact hfr a i z
        rw [this]
        exact sg_Mo_16 hM1
      have hWv : sg_MW (mv_up S 16 (3 * u + m) (v : Int)) (mv_up M 113 (3 * u + m) (v : Int)) := by
        have : sg_MW S (mv_up M 113 (3 * u + m) (v : Int)) := fun a b h1 h2 => by
          rw [hfrv 104 _ (by omega), hfrv 104 _ (by omega)]
          exact W1 a b h1 h2
        exact this
      generalize mv_up M 113 (3 * u + m) (v : Int) = Mv at hfrv hMv hWv
      have F3v : ∀ k, k < 48 → sg_ok (mv_up S 16 (3 * u + m) (v : Int)) k → sg_F3 (mv_up S 16 (3 * u + m) (v : Int)) Mv ((3 * u + m : Nat) : Int) k (3 * (mv_up S 16 (3 * u + m) (v : Int) 0 3).toNat) := fun k hk hok => by
        obtain ⟨q1, q2, q3⟩ := F3 k hk hok
        unfold sg_F3
        rw [show (3 * (mv_up S 16 (3 * u + m) (v : Int) 0 3).toNat) = 3 * (S 0 3).toNat from rfl, sg_g_16, hfrv 117 k (by omega), hfrv 118 k (by omega), hfrv 119 k (by omega)]
        exact ⟨q1, q2, q3⟩
      have hb := fun n => sg_fo_b (S := mv_up S 16 (3 * u + m) (v : Int)) (f := fun k x => sg_if (sg_go (mv_up S 16 (3 * u + m) (v : Int)) (3 * u + m) k) (x + sg_yl (mv_up S 16 (3 * u + m) (v : Int)) ((3 * u + m) / 3) (mv_up S 16 (3 * u + m) (v : Int) 1 k)) x) (a := 0) (b := 990) (by omega) (fun k x hk => by
        have hy := sg_yl_b hwv (show (3 * u + m) / 3 < 6 by omega) (sg_s1 hwv hk)
        by_cases z : sg_go (mv_up S 16 (3 * u + m) (v : Int)) (3 * u + m) k
        · rw [sg_if_y z]
          omega
        · rw [sg_if_n z]
          omega) n
      have e3 : (3 * u + m) / 3 = u := by omega
      have count : ∀ (r k : Nat), k + r = 48 → mv_Run G 184 136 7420 78 [(0, .inr (.inr 88)), (1, .inl (u : Int)), (2, .inl (m : Int)), (3, .inl (3 * (u : Int) + (m : Int))), (4, .inl (S 16 (3 * u + m))), (5, .inl (-9)), (6, .inl (v : Int)), (7, .inl (sg_fo (mv_up S 16 (3 * u + m) (v : Int)) (fun k x => sg_if (sg_go (mv_up S 16 (3 * u + m) (v : Int)) (3 * u + m) k) (x + sg_yl (mv_up S 16 (3 * u + m) (v : Int)) ((3 * u + m) / 3) (mv_up S 16 (3 * u + m) (v : Int) 1 k)) x) 0 k)), (8, .inl (k : Int))] [] (mh l) Mv (mv_qi (mh l) F) := by
        intro r
        induction r with
        | zero =>
          intro k hk
          refine vr_X12_clearsOf_78 ?_
          have e48 : k = 48 := by omega
          subst e48
          rw [if_pos (by omega)]
          have ecm : sg_fo (mv_up S 16 (3 * u + m) (v : Int)) (fun k x => sg_if (sg_go (mv_up S 16 (3 * u + m) (v : Int)) (3 * u + m) k) (x + sg_yl (mv_up S 16 (3 * u + m) (v : Int)) ((3 * u + m) / 3) (mv_up S 16 (3 * u + m) (v : Int) 1 k)) x) 0 48 = sg_cm (mv_up S 16 (3 * u + m) (v : Int)) (3 * u + m) := rfl
          rw [ecm]
          refine md_boughtOf (S := mv_up S 16 (3 * u + m) (v : Int)) hwv hMv (by omega) (by omega) ?_
          have ebo : sg_bo (mv_up S 16 (3 * u + m) (v : Int)) (3 * u + m) (v : Int) = sg_bo S (3 * u + m) (v : Int) := by
            have : ∀ n i, sg_bs (mv_up S 16 (3 * u + m) (v : Int)) (v : Int) n i = sg_bs S (v : Int) n i := by
              intro n
              induction n with
              | zero => intro i; rfl
              | succ n ihn =>
                intro i
                show (if (v : Int) ≤ S 18 i then S 17 i else 0) + sg_bs (mv_up S 16 (3 * u + m) (v : Int)) (v : Int) n (i + 1) = (if (v : Int) ≤ S 18 i then S 17 i else 0) + sg_bs S (v : Int) n (i + 1)
                rw [ihn]
            exact this _ _
          rw [ebo]
          split
          · rename_i z
            refine ⟨by omega, ih (v + 1) Mv (by omega) hfrv ?_⟩
            show sg_if _ _ _ = -9
            rw [sg_if_n (fun y => by have := y.2; omega)]
            exact hcf
          · rename_i z
            refine ⟨by omega, ?_⟩
            have eclr : sg_clr S (3 * u + m) = (v : Int) := sg_cf_y (by omega) (show sg_bo S (3 * u + m) (v : Int) ≤ sg_cm (mv_up S 16 (3 * u + m) (v : Int)) (3 * u + m) by omega) (fun w hw1 => by
              rcases sg_cf_i (fun v => sg_bo S (3 * u + m) (v : Int) ≤ sg_cm (mv_up S 16 (3 * u + m) (v : Int)) (3 * u + m)) v with y | ⟨w', y1, y2, _⟩
              · exact y.2 w hw1
              · omega)
            refine vr_X12_clearsOf_49 ?_
            have hh := h _ (put Mv hfrv)
            rw [eclr] at hh
            split
            · rw [eo]
              exact ⟨by omega, mv_qi_i hh⟩
            · rw [if_neg (by omega), eo]
              exact ⟨by omega, mv_qi_i hh⟩
        | succ r ihr =>
          intro k hk
          refine vr_X12_clearsOf_78 ?_
          rw [if_neg (by omega)]
          have K := ihr (k + 1) (by omega)
          have hbk := hb k
          have h2k : sg_fo (mv_up S 16 (3 * u + m) (v : Int)) (fun k x => sg_if (sg_go (mv_up S 16 (3 * u + m) (v : Int)) (3 * u + m) k) (x + sg_yl (mv_up S 16 (3 * u + m) (v : Int)) ((3 * u + m) / 3) (mv_up S 16 (3 * u + m) (v : Int) 1 k)) x) 0 (k + 1) = sg_if (sg_ok (mv_up S 16 (3 * u + m) (v : Int)) k) (sg_if (sg_go (mv_up S 16 (3 * u + m) (v : Int)) (3 * u + m) k) (sg_fo (mv_up S 16 (3 * u + m) (v : Int)) (fun k x => sg_if (sg_go (mv_up S 16 (3 * u + m) (v : Int)) (3 * u + m) k) (x + sg_yl (mv_up S 16 (3 * u + m) (v : Int)) ((3 * u + m) / 3) (mv_up S 16 (3 * u + m) (v : Int) 1 k)) x) 0 k + sg_yl (mv_up S 16 (3 * u + m) (v : Int)) ((3 * u + m) / 3) (mv_up S 16 (3 * u + m) (v : Int) 1 k)) (sg_fo (mv_up S 16 (3 * u + m) (v : Int)) (fun k x => sg_if (sg_go (mv_up S 16 (3 * u + m) (v : Int)) (3 * u + m) k) (x + sg_yl (mv_up S 16 (3 * u + m) (v : Int)) ((3 * u + m) / 3) (mv_up S 16 (3 * u + m) (v : Int) 1 k)) x) 0 k)) (sg_fo (mv_up S 16 (3 * u + m) (v : Int)) (fun k x => sg_if (sg_go (mv_up S 16 (3 * u + m) (v : Int)) (3 * u + m) k) (x + sg_yl (mv_up S 16 (3 * u + m) (v : Int)) ((3 * u + m) / 3) (mv_up S 16 (3 * u + m) (v : Int) 1 k)) x) 0 k) := rfl
          rw [h2k] at K
          generalize sg_fo (mv_up S 16 (3 * u + m) (v : Int)) (fun k x => sg_if (sg_go (mv_up S 16 (3 * u + m) (v : Int)) (3 * u + m) k) (x + sg_yl (mv_up S 16 (3 * u + m) (v : Int)) ((3 * u + m) / 3) (mv_up S 16 (3 * u + m) (v : Int) 1 k)) x) 0 k = acc at K hbk
          refine md_wouldGo (S := mv_up S 16 (3 * u + m) (v : Int)) hwv hMv hWv (by omega) hu hm (F3v k (by omega)) (fun hok hgo => ?_) (fun hno => ?_)
          · rw [sg_if_y hok, sg_if_y hgo, e3] at K
            have hy := sg_yl_b hwv (show u < 6 by omega) (sg_s1 hwv hok)
            have c91 : Mv 91 k = mv_up S 16 (3 * u + m) (v : Int) 1 k := (hMv.2.1 k hok).1
            rw [if_neg (by decide), Int.toNat_natCast, c91]
            exact ⟨by omega, md_yieldOf (S := mv_up S 16 (3 * u + m) (v : Int)) hwv hMv (by omega) (sg_s1 hwv hok) ⟨by omega, by omega, K⟩⟩
          · rw [if_pos rfl, Int.add_zero]
            have e : sg_if (sg_ok (mv_up S 16 (3 * u + m) (v : Int)) k) (sg_if (sg_go (mv_up S 16 (3 * u + m) (v : Int)) (3 * u + m) k) (acc + sg_yl (mv_up S 16 (3 * u + m) (v : Int)) ((3 * u + m) / 3) (mv_up S 16 (3 * u + m) (v : Int) 1 k)) acc) acc = acc := by
              by_cases z : sg_ok (mv_up S 16 (3 * u + m) (v : Int)) k
              · rw [sg_if_y z, sg_if_n (fun y => hno ⟨z, y⟩)]
              · rw [sg_if_n z]
            rw [e] at K
            exact ⟨by omega, by omega, K⟩
      exact count 48 0 (by omega)
  have others : ∀ M1 : mv_Mem, sg_fq M0 M1 → sg_MW S M1 → ∀ (q k : Nat) (M : mv_Mem), k + q = 48 → sg_fq M0 M → sg_MW S M → (∀ j, j < k → sg_ok S j → sg_F3 S M ((3 * u + m : Nat) : Int) j (3 * (S 0 3).toNat)) →
      mv_Run G 184 136 7420 25 [(0, .inr (.inr 88)), (1, .inl (u : Int)), (2, .inl (m : Int)), (3, .inl (3 * (u : Int) + (m : Int))), (4, .inl (S 16 (3 * u + m))), (5, .inl (-9)), (6, .inl (k : Int))] [] (mh l) M (mv_qi (mh l) F) := by
    intro M1 f1 W1 q
    induction q with
    | zero =>
      intro k M hk hfr hW hd
      refine vr_X12_clearsOf_25 ?_
      rw [if_pos (by omega)]
      exact tries M hfr hW (fun j hj => hd j (by omega)) 1000 0 M (by omega) (fun _ _ _ => rfl) rfl
    | succ q ih =>
      intro k M hk hfr hW hd
      refine vr_X12_clearsOf_25 ?_
      rw [if_neg (by omega)]
      refine md_findOthers hw (sg_fq_o hM hR hfr).1 hW (by omega) (by omega) (fun M2 f2 g2 => ⟨by omega, ih (k + 1) M2 (by omega) (fun a i a1 a2 a3 => (f2 a i (by omega)).trans (hfr a i a1 a2 a3)) (fun a b h1 h2 => by rw [f2 104 _ (by omega), f2 104 _ (by omega)]; exact hW a b h1 h2) (fun j hj hok => ?_)⟩)
      by_cases z : j = k
      · rw [z] at hok ⊢
        exact g2 hok
      · unfold sg_F3
        rw [f2 117 j (by omega), f2 118 j (by omega), f2 119 j (by omega)]
        exact hd j (by omega) hok
  refine vw_X12_clearsOf ?_
  rw [eo, c113]
  refine ⟨by omega, by omega, by omega, md_findMarketWays hw hM hR (fun M1 f1 w1 => ?_)⟩
  have hq : sg_fq M0 M1 := fun a i a1 a2 _ => f1 a i a1 a2
  exact others M1 hq w1 48 0 M1 (by omega) hq w1 (fun j hj => by omega)
/-- cells that a round of the model leaves as they are -/
def sg_fr2 (M0 M : mv_Mem) : Prop := ∀ a i, a ≠ 100 → a ≠ 104 → ¬ (117 ≤ a ∧ a ≤ 119) → a ≠ 113 → M a i = M0 a i
theorem sg_ro_skip : ∀ j n : Nat, (∀ i, n ≤ i → i < n + j → S 0 2 ≤ ((i % 3 : Nat) : Int)) → sg_ro S (n + j) = sg_ro S n
  | 0, _, _ => rfl
  | j + 1, n, h => by
    have ih := sg_ro_skip j n (fun i h1 h2 => h i h1 (by omega))
    have e2 : (sg_ro S (n + j)).1 0 2 = S 0 2 := sg_ro_pq S (n + j) 0 2 (by decide)
    have e1 : sg_r1 (sg_ro S (n + j)).1 (n + j) = ((sg_ro S (n + j)).1, 0) := by
      unfold sg_r1
      rw [if_neg (fun z => by have := z.1.2; have := h (n + j) (by omega) (by omega); omega)]
    have e : sg_ro S (n + j + 1) = sg_ro S (n + j) := by
      show ((sg_r1 (sg_ro S (n + j)).1 (n + j)).1, if (sg_r1 (sg_ro S (n + j)).1 (n + j)).2 = 1 then 1 else (sg_ro S (n + j)).2) = sg_ro S (n + j)
      rw [e1, if_neg (show ¬ (0 : Int) = 1 by decide)]
    exact e.trans ih
theorem md_goesRound (hw : sg_wf S) {M0 : mv_Mem} {n : Nat} (hM : sg_Mo S M0) (hR : sg_Rl S M0 n) (h : ∀ M, sg_fr2 M0 M → sg_Mo (sg_rd S).1 M → sg_Rl (sg_rd S).1 M n → F (sg_rd S).2 M) :
    mv_Wp G 187 [.inr (.inr 88)] (mh l) M0 (mv_qi (mh l) F) := by
  have hnu := sg_nu hw
  have hm3 := hw.1.2.2.1
  obtain ⟨mk, hmk⟩ := sg_nat hm3.1
  have hRl : ∀ (o : Nat) (M : mv_Mem), sg_fr2 M0 M → sg_Rl (sg_ro S o).1 M n := fun o M hfr => sg_Rl_c (fun i => sg_ro_pq S o 0 i (by decide)) (fun i => sg_ro_pq S o 5 i (by decide)) (sg_Rl_fr hR (hfr 88 17 (by decide) (by decide) (by decide) (by decide)) (fun a i h1 h2 => hfr a i (by omega) (by omega) (by omega) (by omega)))
  have key : ∀ (q u : Nat) (M : mv_Mem), ((u + q : Nat) : Int) = S 0 3 → sg_fr2 M0 M → sg_Mo (sg_ro S (3 * u)).1 M → mv_Run G 187 136 7420 4 [(0, .inr (.inr 88)), (1, .inl (sg_ro S (3 * u)).2), (2, .inl (u : Int))] [] (mh l) M (mv_qi (mh l) F) := by
    intro q
    induction q with
    | zero =>
      intro u M hu hfr hMo
      refine vr_X12_goesRound_4 ?_
      have c1 : M 88 36 = S 0 3 := hMo.1.2.2.2.1.trans (sg_ro_pq S _ 0 3 (by decide))
      rw [c1, if_pos (by omega)]
      have e : u = (S 0 3).toNat := by omega
      subst e
      exact ⟨sg_ro_01 S _, mv_qi_i (h M hfr hMo (hRl _ M hfr))⟩
    | succ q ih =>
      intro u M hu hfr hMo
      refine vr_X12_goesRound_4 ?_
      have c1 : M 88 36 = S 0 3 := hMo.1.2.2.2.1.trans (sg_ro_pq S _ 0 3 (by decide))
      rw [c1, if_neg (by omega)]
      have inner : ∀ (r m : Nat) (M : mv_Mem), m + r = mk → sg_fr2 M0 M → sg_Mo (sg_ro S (3 * u + m)).1 M → mv_Run G 187 136 7420 14 [(0, .inr (.inr 88)), (1, .inl (sg_ro S (3 * u + m)).2), (2, .inl (u : Int)), (3, .inl (m : Int))] [] (mh l) M (mv_qi (mh l) F) := by
        intro r
        induction r with
        | zero =>
          intro m M hm hfr hMo
          refine vr_X12_goesRound_14 ?_
          have c2 : M 88 23 = S 0 2 := hMo.1.2.2.1.trans (sg_ro_pq S _ 0 2 (by decide))
          rw [c2, if_pos (by omega)]
          have e := sg_ro_skip (S := S) (3 - m) (3 * u + m) (fun i h1 h2 => by omega)
          rw [show 3 * u + m + (3 - m) = 3 * (u + 1) by omega] at e
          have K := ih (u + 1) M (by omega) hfr
          rw [e] at K
          exact ⟨by omega, K hMo⟩
        | succ r ihr =>
          intro m M hm hfr hMo
          refine vr_X12_goesRound_14 ?_
          have ho : 3 * u + m < 18 := by omega
          have eo : Int.toNat (3 * (u : Int) + (m : Int)) = 3 * u + m := by omega
          have c2 : M 88 23 = S 0 2 := hMo.1.2.2.1.trans (sg_ro_pq S _ 0 2 (by decide))
          have c3 : M 116 (3 * u + m) = (sg_ro S (3 * u + m)).1 19 (3 * u + m) := (hMo.2.2.2.2.2.2.2.2.1 _ ho).2
          have hwo := sg_ro_wf hw (3 * u + m)
          have hnu2 : (sg_ro S (3 * u + m)).1 0 3 = S 0 3 := sg_ro_pq S _ 0 3 (by decide)
          have hmk2 : (sg_ro S (3 * u + m)).1 0 2 = S 0 2 := sg_ro_pq S _ 0 2 (by decide)
          have K := fun M' => ihr (m + 1) M' (by omega)
          have e3 : sg_ro S (3 * u + (m + 1)) = ((sg_r1 (sg_ro S (3 * u + m)).1 (3 * u + m)).1, if (sg_r1 (sg_ro S (3 * u + m)).1 (3 * u + m)).2 = 1 then 1 else (sg_ro S (3 * u + m)).2) := rfl
          rw [e3] at K
          unfold sg_r1 at K
          have hRM := hRl (3 * u + m) M hfr
          rw [c2, if_neg (by omega), eo, c3]
          have hpc := (sg_w16 hwo ho).2
          generalize sg_ro S (3 * u + m) = R at hMo hwo c3 K hnu2 hmk2 hRM hpc
          refine ⟨by omega, by omega, by omega, ?_⟩
          have skip : ¬ ((0 < R.1 19 (3 * u + m) ∧ (((3 * u + m) % 3 : Nat) : Int) < R.1 0 2) ∧ sg_clr R.1 (3 * u + m) ≠ -9 ∧ sg_clr R.1 (3 * u + m) ≠ R.1 16 (3 * u + m)) → ∀ M1, sg_fr2 M0 M1 → sg_Mo R.1 M1 →
              mv_Run G 187 136 7420 14 [(0, .inr (.inr 88)), (1, .inl R.2), (2, .inl (u : Int)), (3, .inl ((m : Int) + 1))] [] (mh l) M1 (mv_qi (mh l) F) := by
            intro q M1 g1 g2
            have K1 := K M1 g1
            rw [if_neg q] at K1
            rw [if_neg (show ¬ (0 : Int) = 1 by decide)] at K1
            exact K1 g2
          split
          · rename_i z
            exact ⟨by omega, skip (fun y => by have := y.1.1; omega) M hfr hMo⟩
          · rename_i z
            refine md_clearsOf (S := R.1) hwo hMo hRM (by omega) (by omega) (fun M1 f1 => ?_)
            have hfr1 : sg_fr2 M0 M1 := fun a i a1 a2 a3 a4 => (f1 a i a1 a2 a3).trans (hfr a i a1 a2 a3 a4)
            have hMo1 := (sg_fq_o hMo hRM f1).1
            have c4 : M1 113 (3 * u + m) = R.1 16 (3 * u + m) := (hMo1.2.2.2.2.2.2.2.2.1 _ ho).1
            rw [c4]
            split
            · rename_i z2
              exact ⟨by omega, skip (fun y => y.2.1 z2) M1 hfr1 hMo1⟩
            · rename_i z2
              refine ⟨by omega, by omega, by omega, ?_⟩
              split
              · rename_i z3
                exact ⟨by omega, skip (fun y => y.2.2 z3) M1 hfr1 hMo1⟩
              · rename_i z3
                refine ⟨by omega, by omega, by omega, by omega, ?_⟩
                have K1 := K (mv_up M1 113 (3 * u + m) (sg_clr R.1 (3 * u + m))) (fun a i a1 a2 a3 a4 => by rw [mv_up_c a4]; exact hfr1 a i a1 a2 a3 a4)
                rw [if_pos ⟨⟨by omega, by omega⟩, z2, z3⟩] at K1
                rw [if_pos (show (1 : Int) = 1 from rfl)] at K1
                exact K1 (sg_Mo_16 hMo1)
      exact inner mk 0 M (by omega) hfr hMo
  refine vw_X12_goesRound ?_
  exact key (S 0 3).toNat 0 M0 (by omega) (fun _ _ _ _ _ _ => rfl) hM
end MT
