/-! THE MODEL's WAYS -/
def sg_jv (S : mv_Mem) (wk : Bool) (to : Nat) (f : Nat → Int) : Prop := f to = 0 ∧ (∀ j, sg_ok S j → 0 ≤ f j ∧ f j ≤ 1000000) ∧ sg_tig S wk to 1000000 f
def sg_c1 (S : mv_Mem) (wk : Bool) (f : Nat → Int) (k : Nat) : Prop := ∀ d, d < 4 → sg_has S k d → f k ≤ sg_fee S wk k d + f (sg_nx k d)
/-- the ways of markets, as the model keeps them -/
def sg_MW (S M : mv_Mem) : Prop := ∀ m k : Nat, (m : Int) < S 0 2 → sg_ok S k → M 104 (48 * (2 * m) + k) = sg_way S false (S 7 m).toNat k ∧ M 104 (48 * (2 * m + 1) + k) = sg_way S true (S 7 m).toNat k
section MY
variable {S : mv_Mem} {G : mv_G} {l : Nat} {wk : Bool}
theorem md_shortens (hw : sg_wf S) {M0 : mv_Mem} {F : Int → mv_Mem → Prop} {n to k : Nat} {f0 : Nat → Int} {b : Int} (hb : b = if wk = true then 1 else 0) (hM : sg_Mo S M0) (hR : sg_Rl S M0 n) (hto : sg_ok S to) (hk : sg_ok S k) (hf0 : ∀ j, sg_ok S j → M0 100 j = f0 j) (hj : sg_jv S wk to f0)
    (h : ∀ M f x, (∀ a i, a ≠ 100 → M a i = M0 a i) → (∀ j, sg_ok S j → M 100 j = f j) → sg_jv S wk to f → ((x = 0 ∧ f = f0 ∧ sg_c1 S wk f0 k) ∨ (x = 1 ∧ sg_sum f 48 < sg_sum f0 48)) → F x M) :
    mv_Wp G 154 [.inr (.inr 88), .inl (k : Int), .inl b] (mh l) M0 (mv_qi (mh l) F) := by
  have hk48 := sg_ok_48 hw hk
  have hwd := hw.1.1
  have hht := hw.1.2.1
  have key : ∀ (m d : Nat) (M : mv_Mem) (f : Nat → Int) (x : Int), d + m = 4 → (∀ a i, a ≠ 100 → M a i = M0 a i) → (∀ j, sg_ok S j → M 100 j = f j) → sg_jv S wk to f → ((x = 0 ∧ f = f0 ∧ ∀ e, e < d → sg_has S k e → f0 k ≤ sg_fee S wk k e + f0 (sg_nx k e)) ∨ (x = 1 ∧ sg_sum f 48 < sg_sum f0 48)) →
      mv_Run G 154 136 7420 5 [(0, .inr (.inr 88)), (1, .inl (k : Int)), (2, .inl b), (3, .inl x), (4, .inl (d : Int))] [] (mh l) M (mv_qi (mh l) F) := by
    intro m
    induction m with
    | zero =>
      intro d M f x hd hfr hf hjf hx
      refine vr_X12_shortens_5 ?_
      rw [if_pos (by omega)]
      refine ⟨by rcases hx with hx | hx <;> omega, mv_qi_i (h M f x hfr hf hjf ?_)⟩
      rcases hx with ⟨a, b, c⟩ | hx
      · exact Or.inl ⟨a, b, fun e he => c e (by omega)⟩
      · exact Or.inr hx
    | succ m ih =>
      intro d M f x hd hfr hf hjf hx
      refine vr_X12_shortens_5 ?_
      have hMM : sg_Mo S M := sg_Mo_fr hM (fun a i ha => hfr a i (by unfold sg_mc at ha; omega))
      have hRM : sg_Rl S M n := sg_Rl_fr hR (hfr 88 17 (by decide)) (fun a i h1 h2 => hfr a i (by omega))
      have c1 : M 88 8 = S 0 0 := hMM.1.1
      have c2 : M 88 9 = S 0 1 := hMM.1.2.1
      obtain ⟨⟨d1, d2, d3, d4⟩, e1, e2, e3, e4⟩ := hMM.2.2.2.2.1
      have hd4 : d < 4 := by omega
      -- what the tables of directions say
      have hxy : (sg_has S k d → 0 ≤ (k : Int) % 8 + M 101 d ∧ (k : Int) % 8 + M 101 d < S 0 0 ∧ 0 ≤ (k : Int) / 8 + M 102 d ∧ (k : Int) / 8 + M 102 d < S 0 1 ∧ 8 * ((k : Int) / 8 + M 102 d) + ((k : Int) % 8 + M 101 d) = (sg_nx k d : Int)) ∧ (¬ sg_has S k d → (k : Int) % 8 + M 101 d < 0 ∨ (k : Int) / 8 + M 102 d < 0 ∨ S 0 0 ≤ (k : Int) % 8 + M 101 d ∨ S 0 1 ≤ (k : Int) / 8 + M 102 d) ∧ (-1 ≤ M 101 d ∧ M 101 d ≤ 1) ∧ (-1 ≤ M 102 d ∧ M 102 d ≤ 1) := by
        obtain ⟨k1, k2⟩ := hk
        unfold sg_has sg_nx
        rcases (show d = 0 ∨ d = 1 ∨ d = 2 ∨ d = 3 by omega) with rfl | rfl | rfl | rfl
        · simp only [if_true]
          rw [d1, e1]
          refine ⟨fun z => ?_, fun z => ?_, ?_, ?_⟩ <;> omega
        · simp only [if_true, show ¬ (1 = 0) by decide, if_false]
          rw [d2, e2]
          refine ⟨fun z => ?_, fun z => ?_, ?_, ?_⟩ <;> omega
        · simp only [if_true, show ¬ (2 = 0) by decide, show ¬ (2 = 1) by decide, if_false]
          rw [d3, e3]
          refine ⟨fun z => ?_, fun z => ?_, ?_, ?_⟩ <;> omega
        · simp only [show ¬ (3 = 0) by decide, show ¬ (3 = 1) by decide, show ¬ (3 = 2) by decide, if_false]
          rw [d4, e4]
          refine ⟨fun z => ?_, fun z => ?_, ?_, ?_⟩ <;> omega
      obtain ⟨hy, hn, r1, r2⟩ := hxy
      rw [if_neg (by omega), Int.toNat_natCast, sg_td (by omega), sg_tm (by omega), c1, c2]
      refine ⟨by decide, by omega, by omega, ⟨by decide, by omega⟩, by omega, by omega, ?_⟩
      have skip : ¬ sg_has S k d → mv_R32 ((d : Int) + 1) ∧ mv_Run G 154 136 7420 5 [(0, .inr (.inr 88)), (1, .inl (k : Int)), (2, .inl b), (3, .inl x), (4, .inl ((d : Int) + 1))] [] (mh l) M (mv_qi (mh l) F) := fun hno => ⟨by omega, ih (d + 1) M f x (by omega) hfr hf hjf (by
        rcases hx with ⟨a, b, c⟩ | hx
        · refine Or.inl ⟨a, b, fun e he hhe => ?_⟩
          by_cases q : e = d
          · rw [q] at hhe
            exact absurd hhe hno
          · exact c e (by omega) hhe
        · exact Or.inr hx)⟩
      by_cases hh : sg_has S k d
      rotate_left
      · split
        · exact skip hh
        · split
          · exact skip hh
          · split
            · exact skip hh
            · split
              · have := hn hh
                omega
              · exact skip hh
      obtain ⟨y1, y2, y3, y4, y5⟩ := hy hh
      have hnok := sg_nx_ok hw hk hd4 hh
      have hn48 := sg_ok_48 hw hnok
      have hfee := sg_fee_b hw (wk := wk) hk hd4 hh
      have ct : M 92 (sg_nx k d) = S 2 (sg_nx k d) := (hMM.2.1 _ hnok).2.1
      have cw : M 100 (sg_nx k d) = f (sg_nx k d) := hf _ hnok
      have cwk : M 100 k = f k := hf _ hk
      have fb := hjf.2.1 _ hnok
      have fbk := hjf.2.1 _ hk
      rw [if_neg (by omega), if_neg (by omega), if_neg (by omega), if_pos y4, y5, Int.toNat_natCast, Int.toNat_natCast]
      refine ⟨by omega, by omega, ?_⟩
      have fin : (v : Int) → v = sg_fee S wk k d + f (sg_nx k d) → (if v < M 100 k then (0 ≤ (k : Int) ∧ (k : Int) < ((48 : Nat) : Int)) ∧ mv_R32 ((d : Int) + 1) ∧ mv_Run G 154 136 7420 5 [(0, .inr (.inr 88)), (1, .inl (k : Int)), (2, .inl b), (3, .inl 1), (4, .inl ((d : Int) + 1))] [] (mh l) (mv_up M 100 k v) (mv_qi (mh l) F)
          else mv_R32 ((d : Int) + 1) ∧ mv_Run G 154 136 7420 5 [(0, .inr (.inr 88)), (1, .inl (k : Int)), (2, .inl b), (3, .inl x), (4, .inl ((d : Int) + 1))] [] (mh l) M (mv_qi (mh l) F)) := by
        intro v hv
        subst hv
        rw [cwk]
        split
        · rename_i q
          obtain ⟨s1, s2, s3, s4⟩ := sg_step hw (fun j hj => (hjf.2.1 j hj).1) hjf.1 hjf.2.2 hk hd4 hh q
          have hsum := sg_sum_u (f := f) (k := k) (v := sg_fee S wk k d + f (sg_nx k d)) (by omega) q 48 hk48
          refine ⟨by omega, by omega, ih (d + 1) _ (sg_upf f k (sg_fee S wk k d + f (sg_nx k d))) 1 (by omega) (fun a i ha => by rw [mv_up_c ha]; exact hfr a i ha) (fun j hj => ?_) ⟨s3, fun j hj => ⟨s2 j hj, ?_⟩, s4 fbk.2⟩ (Or.inr ⟨rfl, ?_⟩)⟩
          · by_cases z : j = k
            · rw [z, mv_up_s, sg_upf_s]
            · rw [mv_up_j z, sg_upf_n z]
              exact hf j hj
          · unfold sg_upf
            split
            · omega
            · exact (hjf.2.1 j hj).2
          · rcases hx with ⟨_, z, _⟩ | ⟨_, z⟩
            · rw [z] at hsum ⊢
              exact hsum
            · exact Nat.lt_trans hsum z
        · rename_i q
          refine ⟨by omega, ih (d + 1) M f x (by omega) hfr hf hjf ?_⟩
          rcases hx with ⟨a, b, c⟩ | hx
          · refine Or.inl ⟨a, b, fun e he hhe => ?_⟩
            by_cases z : e = d
            · rw [z, ← b]
              omega
            · exact c e (by omega) hhe
          · exact Or.inr hx
      cases wk with
      | false =>
        have hfe : sg_fee S false k d = S 6 (if S 5 (4 * k + d) = 4 then 0 else (S 5 (4 * k + d)).toNat) + S 2 (sg_nx k d) := rfl
        rw [if_neg (show ¬ (false = true) by decide)] at hb
        rw [if_pos hb]
        refine md_stepOf hw hMM hRM hk hd4 hh ?_
        rw [ct, cw]
        have F1 := fin (S 6 (if S 5 (4 * k + d) = 4 then 0 else (S 5 (4 * k + d)).toNat) + S 2 (sg_nx k d) + f (sg_nx k d)) (by rw [hfe])
        have h2 := hw.2.1.2.1 (sg_nx k d) hn48
        exact ⟨by omega, by omega, by omega, by omega, by omega, F1⟩
      | true =>
        have hfe : sg_fee S true k d = 10 + S 2 (sg_nx k d) := rfl
        rw [if_pos rfl] at hb
        rw [if_neg (by omega), ct, cw]
        have F1 := fin (10 + S 2 (sg_nx k d) + f (sg_nx k d)) (by rw [hfe])
        have h2 := hw.2.1.2.1 (sg_nx k d) hn48
        exact ⟨by omega, by omega, by omega, by omega, by omega, F1⟩
  refine vw_X12_shortens ?_
  exact key 4 0 M0 f0 0 (by omega) (fun _ _ _ => rfl) hf0 hj (Or.inl ⟨rfl, rfl, fun e he => by omega⟩)
theorem md_findWays (hw : sg_wf S) {M0 : mv_Mem} {F : mv_Mem → Prop} {n to : Nat} {b : Int} (hb : b = if wk = true then 1 else 0) (hM : sg_Mo S M0) (hR : sg_Rl S M0 n) (hto : sg_ok S to)
    (h : ∀ M, (∀ a i, a ≠ 100 → M a i = M0 a i) → (∀ k, sg_ok S k → M 100 k = sg_way S wk to k) → F M) :
    mv_Wp G 153 [.inr (.inr 88), .inl (to : Int), .inl b] (mh l) M0 (mv_qv (mh l) F) := by
  have big : ∀ (N : Nat) (M : mv_Mem) (f : Nat → Int), sg_sum f 48 = N → (∀ a i, a ≠ 100 → M a i = M0 a i) → (∀ j, sg_ok S j → M 100 j = f j) → sg_jv S wk to f →
      mv_Run G 153 136 7420 33 [(0, .inr (.inr 88)), (2, .inl b), (3, .inl 1)] [] (mh l) M (mv_qv (mh l) F) := by
    intro N
    induction N using Nat.strongRecOn with
    | ind N IH =>
      intro M f hN hfr hf hj
      refine vr_X12_findWays_33 ?_
      rw [if_neg (by decide)]
      have sweep : ∀ (m k : Nat) (M' : mv_Mem) (f' : Nat → Int) (x : Int), k + m = 48 → (∀ a i, a ≠ 100 → M' a i = M0 a i) → (∀ j, sg_ok S j → M' 100 j = f' j) → sg_jv S wk to f' → ((x = 0 ∧ f' = f ∧ ∀ j, j < k → sg_ok S j → sg_c1 S wk f j) ∨ (x = 1 ∧ sg_sum f' 48 < sg_sum f 48)) →
          mv_Run G 153 136 7420 42 [(0, .inr (.inr 88)), (2, .inl b), (3, .inl x), (4, .inl (k : Int))] [] (mh l) M' (mv_qv (mh l) F) := by
        intro m
        induction m with
        | zero =>
          intro k M' f' x hk hfr' hf' hj' hx
          refine vr_X12_findWays_42 ?_
          rw [if_pos (by omega)]
          rcases hx with ⟨x0, ff, hc⟩ | ⟨x1, hs⟩
          · subst x0
            subst ff
            refine vr_X12_findWays_33 ?_
            rw [if_pos rfl]
            refine mv_qv_i (h M' hfr' (fun k hk => ?_))
            rw [hf' k hk]
            exact sg_way_eq hw hto (sg_IW_of hw (by decide) hto hj'.1 (fun j hj => (hj'.2.1 j hj).1) (fun j d hj hd hh => hc j (by have := sg_ok_48 hw hj; omega) hj d hd hh) hj'.2.2) hk
          · subst x1
            exact IH _ (by omega) M' f' rfl hfr' hf' hj'
        | succ m ih =>
          intro k M' f' x hk hfr' hf' hj' hx
          refine vr_X12_findWays_42 ?_
          have hMM : sg_Mo S M' := sg_Mo_fr hM (fun a i ha => hfr' a i (by unfold sg_mc at ha; omega))
          have hRM : sg_Rl S M' n := sg_Rl_fr hR (hfr' 88 17 (by decide)) (fun a i h1 h2 => hfr' a i (by omega))
          rw [if_neg (by omega)]
          refine md_isAcre hw hMM (fun hok => ?_) (fun hok => ?_)
          · rw [if_neg (by decide)]
            refine md_shortens (k := k) hw hb hMM hRM hto hok hf' hj' (fun M1 f1 y fr1 hf1 hj1 hy => ?_)
            have fr2 : ∀ a i, a ≠ 100 → M1 a i = M0 a i := fun a i ha => (fr1 a i ha).trans (hfr' a i ha)
            rcases hy with ⟨y0, ff, hc⟩ | ⟨y1, hs⟩
            · rw [if_pos y0]
              refine ⟨by omega, ih (k + 1) M1 f1 x (by omega) fr2 hf1 hj1 ?_⟩
              rcases hx with ⟨x0, ff2, hc2⟩ | ⟨x1, hs⟩
              · refine Or.inl ⟨x0, ff.trans ff2, fun j hj hoj => ?_⟩
                by_cases z : j = k
                · rw [z, ← ff2]
                  exact hc
                · exact hc2 j (by omega) hoj
              · rw [ff]
                exact Or.inr ⟨x1, hs⟩
            · rw [if_neg (by omega)]
              refine ⟨by omega, ih (k + 1) M1 f1 1 (by omega) fr2 hf1 hj1 (Or.inr ⟨rfl, ?_⟩)⟩
              rcases hx with ⟨x0, ff2, hc2⟩ | ⟨x1, hs2⟩
              · rw [← ff2]
                exact hs
              · exact Nat.lt_trans hs hs2
          · rw [if_pos rfl]
            refine ⟨by omega, ih (k + 1) M' f' x (by omega) hfr' hf' hj' ?_⟩
            rcases hx with ⟨x0, ff2, hc2⟩ | hx
            · refine Or.inl ⟨x0, ff2, fun j hj hoj => ?_⟩
              by_cases z : j = k
              · rw [z] at hoj
                exact absurd hoj hok
              · exact hc2 j (by omega) hoj
            · exact Or.inr hx
      exact sweep 48 0 M f 0 (by omega) hfr hf hj (Or.inl ⟨rfl, rfl, fun j hj => by omega⟩)
  have init : ∀ (m k : Nat) (M : mv_Mem), k + m = 48 → (∀ a i, a ≠ 100 → M a i = M0 a i) → (∀ j, j < k → M 100 j = if j = to then 0 else 1000000) →
      mv_Run G 153 136 7420 2 [(0, .inr (.inr 88)), (1, .inl (to : Int)), (2, .inl b), (3, .inl (k : Int))] [] (mh l) M (mv_qv (mh l) F) := by
    intro m
    induction m with
    | zero =>
      intro k M hk hfr hd
      refine vr_X12_findWays_2 ?_
      rw [if_pos (by omega)]
      refine big _ M (fun j => if j = to then 0 else 1000000) rfl hfr (fun j hj => hd j (by have := sg_ok_48 hw hj; omega)) ⟨if_pos rfl, fun j hj => ?_, fun j hj hne => Or.inl (if_neg hne)⟩
      show 0 ≤ (if j = to then (0 : Int) else 1000000) ∧ (if j = to then (0 : Int) else 1000000) ≤ 1000000
      split <;> omega
    | succ m ih =>
      intro k M hk hfr hd
      refine vr_X12_findWays_2 ?_
      rw [if_neg (by omega), Int.toNat_natCast]
      have nxt : ∀ v, v = (if k = to then (0 : Int) else 1000000) → (0 ≤ (k : Int) ∧ (k : Int) < ((48 : Nat) : Int)) ∧ mv_R32 ((k : Int) + 1) ∧ mv_Run G 153 136 7420 2 [(0, .inr (.inr 88)), (1, .inl (to : Int)), (2, .inl b), (3, .inl ((k : Int) + 1))] [] (mh l) (mv_up M 100 k v) (mv_qv (mh l) F) := fun v hv => ⟨by omega, by omega, ih (k + 1) _ (by omega) (fun a i ha => by rw [mv_up_c ha]; exact hfr a i ha) (fun j hj => by
        by_cases q : j = k
        · rw [q, mv_up_s]
          exact hv
        · rw [mv_up_j q]
          exact hd j (by omega))⟩
      split
      · rename_i q
        exact nxt 0 (by rw [if_pos (by omega)])
      · rename_i q
        exact nxt 1000000 (by rw [if_neg (by omega)])
  refine vw_X12_findWays ?_
  exact init 48 0 M0 (by omega) (fun _ _ _ => rfl) (fun j hj => by omega)
theorem md_findMarketWays (hw : sg_wf S) {M0 : mv_Mem} {F : mv_Mem → Prop} {n : Nat} (hM : sg_Mo S M0) (hR : sg_Rl S M0 n)
    (h : ∀ M, (∀ a i, a ≠ 100 → a ≠ 104 → M a i = M0 a i) → sg_MW S M → F M) :
    mv_Wp G 159 [.inr (.inr 88)] (mh l) M0 (mv_qv (mh l) F) := by
  have hm3 := hw.1.2.2.1
  have hMo : ∀ M : mv_Mem, (∀ a i, a ≠ 100 → a ≠ 104 → M a i = M0 a i) → sg_Mo S M ∧ sg_Rl S M n := fun M hfr => ⟨sg_Mo_fr hM (fun a i ha => hfr a i (by unfold sg_mc at ha; omega) (by unfold sg_mc at ha; omega)), sg_Rl_fr hR (hfr 88 17 (by decide) (by decide)) (fun a i h1 h2 => hfr a i (by omega) (by omega))⟩
  have key : ∀ (q m : Nat) (M : mv_Mem), ((m + q : Nat) : Int) = S 0 2 → (∀ a i, a ≠ 100 → a ≠ 104 → M a i = M0 a i) → (∀ j k : Nat, j < m → sg_ok S k → M 104 (48 * (2 * j) + k) = sg_way S false (S 7 j).toNat k ∧ M 104 (48 * (2 * j + 1) + k) = sg_way S true (S 7 j).toNat k) →
      mv_Run G 159 136 7420 2 [(0, .inr (.inr 88)), (1, .inl (m : Int))] [] (mh l) M (mv_qv (mh l) F) := by
    intro q
    induction q with
    | zero =>
      intro m M hm hfr hd
      refine vr_X12_findMarketWays_2 ?_
      have c1 : M 88 23 = S 0 2 := (hMo M hfr).1.1.2.2.1
      rw [c1, if_pos (by omega)]
      exact mv_qv_i (h M hfr (fun j k hj hk => hd j k (by omega) hk))
    | succ q ih =>
      intro m M hm hfr hd
      refine vr_X12_findMarketWays_2 ?_
      have c1 : M 88 23 = S 0 2 := (hMo M hfr).1.1.2.2.1
      rw [c1, if_neg (by omega)]
      obtain ⟨g1, g2, g3⟩ := sg_wf_m hw (show (m : Int) < S 0 2 by omega)
      -- one of the two tables of a market
      have copy : ∀ (w : Nat), w < 2 → ∀ (M1 : mv_Mem), (∀ a i, a ≠ 100 → a ≠ 104 → M1 a i = M0 a i) → (∀ k, sg_ok S k → M1 100 k = sg_way S (decide (w = 1)) (S 7 m).toNat k) → ∀ (P : mv_Mem → Prop),
          (∀ M2, (∀ a i, a ≠ 100 → a ≠ 104 → M2 a i = M0 a i) → (∀ i, ¬ (48 * (2 * m + w) ≤ i ∧ i < 48 * (2 * m + w) + 48) → M2 104 i = M1 104 i) → (∀ k, sg_ok S k → M2 104 (48 * (2 * m + w) + k) = sg_way S (decide (w = 1)) (S 7 m).toNat k) → mv_Run G 159 136 7420 12 [(0, .inr (.inr 88)), (1, .inl (m : Int)), (2, .inl ((w : Int) + 1))] [] (mh l) M2 (mv_qv (mh l) F)) →
          mv_Run G 159 136 7420 39 [(0, .inr (.inr 88)), (1, .inl (m : Int)), (2, .inl (w : Int)), (3, .inl 0)] [] (mh l) M1 (mv_qv (mh l) F) := by
        intro w hw2 M1 fr1 hw1 P hP
        have loop : ∀ (t k : Nat) (M2 : mv_Mem), k + t = 48 → (∀ a i, a ≠ 104 → M2 a i = M1 a i) → (∀ i, ¬ (48 * (2 * m + w) ≤ i ∧ i < 48 * (2 * m + w) + 48) → M2 104 i = M1 104 i) → (∀ j, j < k → M2 104 (48 * (2 * m + w) + j) = M1 100 j) →
            mv_Run G 159 136 7420 39 [(0, .inr (.inr 88)), (1, .inl (m : Int)), (2, .inl (w : Int)), (3, .inl (k : Int))] [] (mh l) M2 (mv_qv (mh l) F) := by
          intro t
          induction t with
          | zero =>
            intro k M2 hk f1 f2 f3
            refine vr_X12_findMarketWays_39 ?_
            rw [if_pos (by omega)]
            exact ⟨by omega, hP M2 (fun a i a1 a2 => (f1 a i a2).trans (fr1 a i a1 a2)) f2 (fun j hj => (f3 j (by have := sg_ok_48 hw hj; omega)).trans (hw1 j hj))⟩
          | succ t iht =>
            intro k M2 hk f1 f2 f3
            refine vr_X12_findMarketWays_39 ?_
            rw [if_neg (by omega), show Int.toNat (48 * (2 * (m : Int) + (w : Int)) + (k : Int)) = 48 * (2 * m + w) + k by omega, Int.toNat_natCast, f1 100 k (by decide)]
            refine ⟨by omega, by omega, by omega, by omega, by omega, by omega, by omega, iht (k + 1) _ (by omega) (fun a i ha => by rw [mv_up_c ha]; exact f1 a i ha) (fun i hi => by rw [mv_up_j (by omega)]; exact f2 i hi) (fun j hj => ?_)⟩
            by_cases z : j = k
            · rw [z, mv_up_s]
            · rw [mv_up_j (by omega)]
              exact f3 j (by omega)
        exact loop 48 0 M1 (by omega) (fun _ _ _ => rfl) (fun _ _ => rfl) (fun j hj => by omega)
      refine vr_X12_findMarketWays_12 ?_
      obtain ⟨hMM, hRM⟩ := hMo M hfr
      have c103 : M 103 m = ((S 7 m).toNat : Int) := (hMM.2.2.2.2.2.1 m (by omega)).trans (by omega)
      rw [if_neg (by decide), if_neg (by decide), Int.toNat_natCast, c103]
      refine ⟨by omega, md_findWays (wk := false) hw rfl hMM hRM g3 (fun M1 f1 w1 => ?_)⟩
      refine copy 0 (by decide) M1 (fun a i a1 a2 => (f1 a i a1).trans (hfr a i a1 a2)) w1 (fun _ => True) (fun M2 f2 o2 w2 => ?_)
      refine vr_X12_findMarketWays_12 ?_
      obtain ⟨hMM2, hRM2⟩ := hMo M2 f2
      have c103b : M2 103 m = ((S 7 m).toNat : Int) := (hMM2.2.2.2.2.2.1 m (by omega)).trans (by omega)
      rw [if_neg (by decide), if_pos (by decide), Int.toNat_natCast, c103b]
      refine ⟨by omega, md_findWays (wk := true) hw rfl hMM2 hRM2 g3 (fun M3 f3 w3 => ?_)⟩
      refine copy 1 (by decide) M3 (fun a i a1 a2 => (f3 a i a1).trans (f2 a i a1 a2)) w3 (fun _ => True) (fun M4 f4 o4 w4 => ?_)
      refine vr_X12_findMarketWays_12 ?_
      rw [if_pos (by decide)]
      refine ⟨by omega, ih (m + 1) M4 (by omega) f4 (fun j k hj hk => ?_)⟩
      have hk48 := sg_ok_48 hw hk
      by_cases z : j = m
      · subst z
        refine ⟨?_, w4 k hk⟩
        rw [o4 _ (by omega), f3 104 _ (by decide)]
        exact w2 k hk
      · obtain ⟨q1, q2⟩ := hd j k (by omega) hk
        rw [o4 _ (by omega), o4 _ (by omega), f3 104 _ (by decide), f3 104 _ (by decide), o2 _ (by omega), o2 _ (by omega), f1 104 _ (by decide), f1 104 _ (by decide)]
        exact ⟨q1, q2⟩
  refine vw_X12_findMarketWays ?_
  exact key (S 0 2).toNat 0 M0 (by omega) (fun _ _ _ _ => rfl) (fun j k hj => by omega)
end MY
