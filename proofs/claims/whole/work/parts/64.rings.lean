/-! RINGS: the model's run, its calls ring and edge -/
def rg_mm (t : Int) : Int := if t = -1 then -9 else t
theorem rg_mm_b {t : Int} (h : -1 ≤ t) : (rg_mm t = -9 ↔ t = -1) ∧ (t ≠ -1 → rg_mm t = t) := by
  unfold rg_mm
  split
  · exact ⟨⟨fun _ => by assumption, fun _ => rfl⟩, fun z => by omega⟩
  · exact ⟨⟨fun z => by omega, fun z => by omega⟩, fun _ => rfl⟩
theorem rg_run_t (t : Nat → Int) (e : Nat → Int × Int) : ∀ i, (rg_run t e i).1 ≠ -1 → ((rg_run t e i).2.2 ((rg_run t e i).2.1 - 1)).1 = (rg_run t e i).1
  | 0 => fun c => absurd rfl c
  | i + 1 => by
    show (rg_st (rg_run t e i) (t i) (e i)).1 ≠ -1 → ((rg_st (rg_run t e i) (t i) (e i)).2.2 ((rg_st (rg_run t e i) (t i) (e i)).2.1 - 1)).1 = (rg_st (rg_run t e i) (t i) (e i)).1
    unfold rg_st
    by_cases c : t i = -1
    · rw [if_pos c]
      exact fun d => absurd rfl d
    · rw [if_neg c]
      by_cases d : t i = (rg_run t e i).1
      · rw [if_pos d]
        intro _
        dsimp only
        unfold rg_up
        rw [if_pos rfl]
      · rw [if_neg d]
        intro _
        dsimp only
        unfold rg_up
        rw [Nat.add_sub_cancel, if_pos rfl]
section RL
variable {S : mv_Mem} {G : mv_G} {l c : Nat} {M : mv_Mem} {F : Int → mv_Mem → Prop}
theorem rg_t_lo {h q kd : Nat → Int} {x y : Int} (u : Nat) : -1 ≤ (rg_t h q kd x y u).1 := by
  rcases rg_t_c (h := h) (q := q) (kd := kd) x y u with z | ⟨b, -, -, z, -⟩
  · rw [z]
    decide
  · rw [z]
    dsimp only
    omega
theorem md_useAt (hw : sg_wf S) (hM : sg_Mo S M) {s x y : Int} (hs : 0 ≤ s ∧ s ≤ 9) (hx : 0 ≤ x ∧ x ≤ 62219453076000) (hy : 0 ≤ y ∧ y ≤ 19211920200)
    (h : F (rg_mm (rg_t (sg_hm S s) (sg_sl S s) (fun u => S 8 u) x y (S 0 3).toNat).1) M) : mv_Wp G 194 [.inr (.inr 88), .inl s, .inr (.inl x), .inr (.inl y)] (mh l) M (mv_qi (mh l) F) := by
  have hu := sg_nu hw
  have c36 : M 88 36 = S 0 3 := hM.1.2.2.2.1
  have hb := fun (w : Nat) (hw6 : w < 6) => sg_hm_b hw (u := w) hw6 hs
  have hb2 : ∀ w : Nat, w < 6 → 0 ≤ sg_sl S s w ∧ sg_sl S s w ≤ 98010 := fun w hw6 => sg_cr_b hw hw6 hs
  have key : ∀ (k u : Nat), u + k = (S 0 3).toNat → mv_Run G 194 136 7420 7 [(0, .inr (.inr 88)), (1, .inl s), (2, .inr (.inl x)), (4, .inr (.inl y)), (6, .inl (rg_mm (rg_t (sg_hm S s) (sg_sl S s) (fun u => S 8 u) x y u).1)), (7, .inl (u : Int))] [] (mh l) M (mv_qi (mh l) F) := by
    intro k
    induction k with
    | zero =>
      intro u hk
      refine vr_X12_useAt_7 ?_
      rw [c36, if_pos (by omega)]
      rw [show u = (S 0 3).toNat by omega]
      exact mv_qi_i h
    | succ k ih =>
      intro u hk
      have hu6 : u < 6 := by omega
      have c105 : M 105 u = S 8 u := (hM.2.2.2.2.2.2.1 u hu6).1
      have bu := hb u hu6
      have bu2 := hb2 u hu6
      have m1 := rg_mb (a := sg_hm S s u) (b := y) (A := 159706800) (B := 19211920200) (by omega) (by omega)
      have m2 := rg_mb (a := sg_sl S s u) (b := x) (A := 98010) (B := 62219453076000) (by omega) (by omega)
      have K := ih (u + 1) (by omega)
      unfold rg_t at K
      -- nothing is taken
      have skip : ¬ ((rg_t (sg_hm S s) (sg_sl S s) (fun u => S 8 u) x y u).2 < sg_hm S s u * y - sg_sl S s u * x ∧ rg_ok (S 8 u) x y) → mv_R32 ((u : Int) + 1) ∧ mv_Run G 194 136 7420 7 [(0, .inr (.inr 88)), (1, .inl s), (2, .inr (.inl x)), (4, .inr (.inl y)), (6, .inl (rg_mm (rg_t (sg_hm S s) (sg_sl S s) (fun u => S 8 u) x y u).1)), (7, .inl ((u : Int) + 1))] [] (mh l) M (mv_qi (mh l) F) := fun z => by
        rw [if_neg z] at K
        exact ⟨by omega, K⟩
      have take : ((rg_t (sg_hm S s) (sg_sl S s) (fun u => S 8 u) x y u).2 < sg_hm S s u * y - sg_sl S s u * x ∧ rg_ok (S 8 u) x y) → mv_R32 ((u : Int) + 1) ∧ mv_Run G 194 136 7420 7 [(0, .inr (.inr 88)), (1, .inl s), (2, .inr (.inl x)), (4, .inr (.inl y)), (6, .inl (u : Int)), (7, .inl ((u : Int) + 1))] [] (mh l) M (mv_qi (mh l) F) := fun z => by
        rw [if_pos z, (rg_mm_b (by dsimp only; omega)).2 (by dsimp only; omega)] at K
        exact ⟨by omega, K⟩
      -- behind the guards
      have rest : rg_ok (S 8 u) x y →
          mv_Wp G 168 [.inr (.inr 88), .inl (u : Int), .inl s, .inl 0] (mh l) M (mv_ql (mh l) fun x8 M8 =>
          mv_R64 (x8 * y) ∧
          mv_Wp G 192 [.inr (.inr 88), .inl (u : Int), .inl s] (mh l) M8 (mv_ql (mh l) fun x9 M9 =>
          mv_R64 (x9 * x) ∧
          (if 0 < (mv_cmp (x8 * y) (x9 * x)) then
            (if (rg_mm (rg_t (sg_hm S s) (sg_sl S s) (fun u => S 8 u) x y u).1) = (-9) then
              mv_R32 ((u : Int) + 1) ∧
              mv_Run G 194 136 7420 7 [(0, .inr (.inr 88)), (1, .inl s), (2, .inr (.inl x)), (4, .inr (.inl y)), (6, .inl (u : Int)), (7, .inl ((u : Int) + 1))] [] (mh l) M9 (mv_qi (mh l) F)
            else
              mv_Wp G 168 [.inr (.inr 88), .inl (u : Int), .inl s, .inl 0] (mh l) M9 (mv_ql (mh l) fun x10 M10 =>
              mv_Wp G 168 [.inr (.inr 88), .inl (rg_mm (rg_t (sg_hm S s) (sg_sl S s) (fun u => S 8 u) x y u).1), .inl s, .inl 0] (mh l) M10 (mv_ql (mh l) fun x11 M11 =>
              mv_R64 (x10 - x11) ∧
              mv_R64 ((x10 - x11) * y) ∧
              mv_Wp G 192 [.inr (.inr 88), .inl (u : Int), .inl s] (mh l) M11 (mv_ql (mh l) fun x12 M12 =>
              mv_Wp G 192 [.inr (.inr 88), .inl (rg_mm (rg_t (sg_hm S s) (sg_sl S s) (fun u => S 8 u) x y u).1), .inl s] (mh l) M12 (mv_ql (mh l) fun x13 M13 =>
              mv_R64 (x12 - x13) ∧
              mv_R64 ((x12 - x13) * x) ∧
              (if (mv_cmp ((x10 - x11) * y) ((x12 - x13) * x)) ≤ 0 then
                mv_R32 ((u : Int) + 1) ∧
                mv_Run G 194 136 7420 7 [(0, .inr (.inr 88)), (1, .inl s), (2, .inr (.inl x)), (4, .inr (.inl y)), (6, .inl (rg_mm (rg_t (sg_hm S s) (sg_sl S s) (fun u => S 8 u) x y u).1)), (7, .inl ((u : Int) + 1))] [] (mh l) M13 (mv_qi (mh l) F)
              else
                mv_R32 ((u : Int) + 1) ∧
                mv_Run G 194 136 7420 7 [(0, .inr (.inr 88)), (1, .inl s), (2, .inr (.inl x)), (4, .inr (.inl y)), (6, .inl (u : Int)), (7, .inl ((u : Int) + 1))] [] (mh l) M13 (mv_qi (mh l) F)))))))
          else
            mv_R32 ((u : Int) + 1) ∧
            mv_Run G 194 136 7420 7 [(0, .inr (.inr 88)), (1, .inl s), (2, .inr (.inl x)), (4, .inr (.inl y)), (6, .inl (rg_mm (rg_t (sg_hm S s) (sg_sl S s) (fun u => S 8 u) x y u).1)), (7, .inl ((u : Int) + 1))] [] (mh l) M9 (mv_qi (mh l) F)))) := by
        intro ok
        refine md_worth0 hw hM hu6 hs ⟨by omega, md_slope hw hM hu6 hs ⟨by omega, ?_⟩⟩
        simp only [mv_cmp_gt, mv_cmp_le]
        have lo := rg_t_lo (h := sg_hm S s) (q := sg_sl S s) (kd := fun u => S 8 u) (x := x) (y := y) u
        have mmb := rg_mm_b lo
        rcases rg_t_c (h := sg_hm S s) (q := sg_sl S s) (kd := fun u => S 8 u) x y u with z | ⟨b, b1, b2, z, z2⟩
        · rw [z] at skip take mmb ⊢
          by_cases c : sg_sl S s u * x < sg_hm S s u * y
          · rw [if_pos c, if_pos (mmb.1.2 rfl)]
            exact take ⟨by dsimp only; omega, ok⟩
          · rw [if_neg c]
            exact skip (fun w => by have := w.1; dsimp only at this; omega)
        · rw [z] at skip take mmb ⊢
          have emm : rg_mm (b : Int) = (b : Int) := mmb.2 (by dsimp only; omega)
          rw [emm] at skip ⊢
          have bb := hb b (by omega)
          have bb2 := hb2 b (by omega)
          have m3 := rg_mb (a := sg_hm S s u - sg_hm S s b) (b := y) (A := 317413800) (B := 19211920200) (by omega) (by omega)
          have m4 := rg_mb (a := sg_sl S s u - sg_sl S s b) (b := x) (A := 98010) (B := 62219453076000) (by omega) (by omega)
          by_cases c : sg_sl S s u * x < sg_hm S s u * y
          · rw [if_pos c, if_neg (by omega)]
            refine md_worth0 hw hM hu6 hs (md_worth0 hw hM (by omega) hs ⟨by omega, by omega, md_slope hw hM hu6 hs (md_slope hw hM (by omega) hs ⟨by omega, by omega, ?_⟩)⟩)
            rw [Int.sub_mul, Int.sub_mul]
            by_cases d : sg_hm S s u * y - sg_hm S s b * y ≤ sg_sl S s u * x - sg_sl S s b * x
            · rw [if_pos d]
              exact skip (fun w => by have := w.1; dsimp only at this; omega)
            · rw [if_neg d]
              exact take ⟨by dsimp only; omega, ok⟩
          · rw [if_neg c]
            exact skip (fun w => by have := w.1; dsimp only at this; omega)
      refine vr_X12_useAt_7 ?_
      rw [c36, if_neg (by omega)]
      refine md_isRinged hM hu6 (fun hr => ?_) (fun hr => ?_)
      · rw [if_neg (by decide), Int.toNat_natCast, c105]
        refine ⟨by omega, ?_⟩
        by_cases k2 : S 8 u = 2
        · rw [if_pos k2]
          refine ⟨by omega, ?_⟩
          by_cases c : 0 < mv_cmp x (60 * y)
          · rw [if_pos c]
            rw [mv_cmp_gt] at c
            exact skip (fun w => by have := w.2.2 k2; omega)
          · rw [if_neg c]
            rw [mv_cmp_gt] at c
            exact rest ⟨hr, fun _ => by omega⟩
        · rw [if_neg k2]
          exact rest ⟨hr, fun z => absurd z k2⟩
      · rw [if_pos rfl]
        exact skip (fun w => hr w.2.1)
  refine vw_X12_useAt ?_
  exact key (S 0 3).toNat 0 (by omega)
theorem md_findMarks (hw : sg_wf S) {M0 : mv_Mem} {F : mv_Mem → Prop} (hM : sg_Mo S M0) {s : Int} (hs : 0 ≤ s ∧ s ≤ 9)
    (h : ∀ (M : mv_Mem) (C : Nat → Int × Int) (m : Nat), rg_ps C m → rg_mu C m M → rg_bo C m → rg_gc C m → m ≤ 23 → rg_cn (rg_P (sg_hm S s) (sg_sl S s) (fun u => S 8 u) (S 0 3).toNat) C m → (∀ a i, a ≠ 120 → a ≠ 121 → ¬ (a = 88 ∧ i = 46) → M a i = M0 a i) → F M) :
    mv_Wp G 193 [.inr (.inr 88), .inl s] (mh l) M0 (mv_qv (mh l) F) := by
  have hu := sg_nu hw
  have key : ∀ (k u : Nat) (M : mv_Mem) (C : Nat → Int × Int) (m : Nat), u + k = (S 0 3).toNat → rg_ps C m → rg_mu C m M → rg_bo C m → rg_gc C m → m ≤ rg_c u → rg_cn (rg_P (sg_hm S s) (sg_sl S s) (fun u => S 8 u) u) C m → (∀ a i, a ≠ 120 → a ≠ 121 → ¬ (a = 88 ∧ i = 46) → M a i = M0 a i) →
      mv_Run G 193 136 7420 15 [(0, .inr (.inr 88)), (1, .inl s), (2, .inl (u : Int))] [] (mh l) M (mv_qv (mh l) F) := by
    intro k
    induction k with
    | zero =>
      intro u M C m hk ps cu bo gc mc cn fr
      refine vr_X12_findMarks_15 ?_
      have c36 : M 88 36 = S 0 3 := (fr 88 36 (by decide) (by decide) (by decide)).trans hM.1.2.2.2.1
      have eu : u = (S 0 3).toNat := by omega
      rw [c36, if_pos (by omega)]
      have := rg_c_6 (u := u) (by omega)
      exact mv_qv_i (h M C m ps cu bo gc (by omega) (by rw [← eu]; exact cn) fr)
    | succ k ih =>
      intro u M C m hk ps cu bo gc mc cn fr
      refine vr_X12_findMarks_15 ?_
      have c36 : M 88 36 = S 0 3 := (fr 88 36 (by decide) (by decide) (by decide)).trans hM.1.2.2.2.1
      have hu6 : u < 6 := by omega
      have h23 := rg_c_6 (u := u + 1) (by omega)
      have hc1 : rg_c (u + 1) = rg_c u + 1 + u := rfl
      have hb := fun (w : Nat) (hw6 : w < 6) => sg_hm_b hw (u := w) hw6 hs
      have hb2 : ∀ w : Nat, w < 6 → 0 ≤ sg_sl S s w ∧ sg_sl S s w ≤ 98010 := fun w hw6 => sg_cr_b hw hw6 hs
      have mo : ∀ M : mv_Mem, (∀ a i, a ≠ 120 → a ≠ 121 → ¬ (a = 88 ∧ i = 46) → M a i = M0 a i) → sg_Mo S M := fun M fr => sg_Mo_fr hM (fun a i ha => fr a i (by unfold sg_mc at ha; omega) (by unfold sg_mc at ha; omega) (by unfold sg_mc at ha; omega))
      have hMM := mo M fr
      rw [c36, if_neg (by omega)]
      refine md_isRinged hMM hu6 (fun hr => ?_) (fun hr => ?_)
      · rw [if_neg (by decide)]
        have b1 := hb u hu6
        have b2 := hb2 u hu6
        refine md_worth0 hw hMM hu6 hs (md_slope hw hMM hu6 hs (md_marksAt (C := C) (m := m) ps (by omega) cu bo gc (by omega) (by omega) (fun M1 C1 m1 ps1 cu1 bo1 gc1 mc1 fr1 cn1 => ?_)))
        have cnP := cn1 (rg_P (sg_hm S s) (sg_sl S s) (fun u => S 8 u) u) (rg_Pm (sg_hm S s) (sg_sl S s) (fun u => S 8 u) u 0) cn (fun x y _ _ hq => by
          rcases hq with (z | z) | ⟨w, w1, -⟩
          · exact Or.inl z
          · exact Or.inr z.2
          · omega)
        have inner : ∀ (k' v : Nat) (M : mv_Mem) (C : Nat → Int × Int) (m : Nat), v + k' = u → rg_ps C m → rg_mu C m M → rg_bo C m → rg_gc C m → m ≤ rg_c u + 1 + v → rg_cn (rg_Pm (sg_hm S s) (sg_sl S s) (fun u => S 8 u) u v) C m → (∀ a i, a ≠ 120 → a ≠ 121 → ¬ (a = 88 ∧ i = 46) → M a i = M0 a i) →
            mv_Run G 193 136 7420 53 [(0, .inr (.inr 88)), (1, .inl s), (2, .inl (u : Int)), (3, .inl (v : Int))] [] (mh l) M (mv_qv (mh l) F) := by
          intro k'
          induction k' with
          | zero =>
            intro v M C m hv ps cu bo gc mc cn fr
            refine vr_X12_findMarks_53 ?_
            rw [if_pos (by omega)]
            have ev : v = u := by omega
            subst ev
            exact ⟨by omega, ih (v + 1) M C m (by omega) ps cu bo gc (by omega) (rg_cn_mo cn (fun a b _ _ hq => rg_Pm_n.1 hq)) fr⟩
          | succ k' ihv =>
            intro v M C m hv ps cu bo gc mc cn fr
            refine vr_X12_findMarks_53 ?_
            have hMM := mo M fr
            have bu := hb u hu6
            have bv := hb v (by omega)
            have bu2 := hb2 u hu6
            have bv2 := hb2 v (by omega)
            rw [if_neg (by omega)]
            refine md_isRinged hMM (by omega) (fun hrv => ?_) (fun hrv => ?_)
            · rw [if_neg (by decide)]
              refine md_worth0 hw hMM hu6 hs (md_worth0 hw hMM (by omega) hs ⟨by omega, md_slope hw hMM hu6 hs (md_slope hw hMM (by omega) hs ⟨by omega, md_marksAt (C := C) (m := m) ps (by omega) cu bo gc (by omega) (by omega) (fun M2 C2 m2 ps2 cu2 bo2 gc2 mc2 fr2 cn2 => ⟨by omega, ihv (v + 1) M2 C2 m2 (by omega) ps2 cu2 bo2 gc2 (by omega) (cn2 _ _ cn (fun x y _ _ hq => ?_)) (fun a i h1 h2 h3 => (fr2 a i h1 h2 h3).trans (fr a i h1 h2 h3))⟩)⟩)⟩)
              rcases hq with z | ⟨w, w1, w2, w3, w4⟩
              · exact Or.inl (Or.inl z)
              · by_cases e : w = v
                · subst e
                  exact Or.inr w4
                · exact Or.inl (Or.inr ⟨w, by omega, w2, w3, w4⟩)
            · rw [if_pos rfl]
              refine ⟨by omega, ihv (v + 1) M C m (by omega) ps cu bo gc (by omega) (rg_cn_mo cn (fun a b _ _ hq => ?_)) fr⟩
              rcases hq with z | ⟨w, w1, w2, w3, w4⟩
              · exact Or.inl z
              · by_cases e : w = v
                · subst e
                  exact absurd w3 hrv
                · exact Or.inr ⟨w, by omega, w2, w3, w4⟩
        exact inner u 0 M1 C1 m1 (by omega) ps1 cu1 bo1 gc1 (by omega) cnP (fun a i h1 h2 h3 => (fr1 a i h1 h2 h3).trans (fr a i h1 h2 h3))
      · rw [if_pos rfl]
        refine ⟨by omega, ih (u + 1) M C m (by omega) ps cu bo gc (by omega) (rg_cn_mo cn (fun a b _ _ hq => ?_)) fr⟩
        rcases rg_Pm_n.1 hq with (z | z) | ⟨w, w1, w2, -⟩
        · exact z
        · exact absurd z.1 hr
        · exact absurd w2 hr
  refine vw_X12_findMarks ?_
  refine md_marksAt (C := fun _ => (0, 1)) (m := 1) ⟨by decide, rfl, fun i _ => (by decide : (0 : Int) < 1), fun i hi => by omega⟩ (by decide) ⟨by rw [mv_up_s]; rfl, fun i hi => by omega⟩ (fun i _ => (by decide : ((0 : Int) ≤ 0 ∧ (0 : Int) ≤ 317413800) ∧ (0 : Int) < 1 ∧ (1 : Int) ≤ 98010)) ⟨rfl, fun i _ => by show Int.gcd 0 1 = 1; simp⟩ (by decide) (by decide) (fun M1 C1 m1 ps1 cu1 bo1 gc1 mc1 fr1 cn1 => ?_)
  refine key (S 0 3).toNat 0 M1 C1 m1 (by omega) ps1 cu1 bo1 gc1 mc1 (cn1 (fun _ _ => False) _ (fun a b _ _ hq => absurd hq id) (fun x y _ _ hq => ?_)) (fun a i h1 h2 h3 => ?_)
  · rcases hq with c | ⟨u, u1, -⟩ | ⟨u, v, u1, u2, -⟩
    · exact Or.inr ⟨by decide, by omega⟩
    · omega
    · omega
  · rw [fr1 a i h1 h2 h3, mv_up_n h3]
/-- what a run changes -/
def rg_fm (M0 M : mv_Mem) : Prop := ∀ a i, ¬ (122 ≤ a ∧ a ≤ 124) → ¬ (a = 88 ∧ i = 47) → M a i = M0 a i
theorem md_findRings (hw : sg_wf S) {M0 : mv_Mem} {F : mv_Mem → Prop} (hM : sg_Mo S M0) {s : Int} (hs : 0 ≤ s ∧ s ≤ 9)
    (h : ∀ M, rg_rs (sg_rg S s) 88 47 124 122 123 M → (sg_rg S s).2.1 ≤ 23 → (∀ a i, ¬ (120 ≤ a ∧ a ≤ 124) → ¬ (a = 88 ∧ (i = 46 ∨ i = 47)) → M a i = M0 a i) → F M) :
    mv_Wp G 195 [.inr (.inr 88), .inl s] (mh l) M0 (mv_qv (mh l) F) := by
  have hu := sg_nu hw
  refine vw_X12_findRings (md_findMarks hw hM hs (fun M C m ps cu bo gc hm cn fr => ?_))
  have hm0 := ps.1
  have key : ∀ (k i : Nat) (M1 : mv_Mem), i + k = m → rg_rs (rg_run (fun i => (rg_t (sg_hm S s) (sg_sl S s) (fun u => S 8 u) (rg_md C m i).1 (rg_md C m i).2 (S 0 3).toNat).1) (rg_e1 C m) i) 88 47 124 122 123 M1 → rg_fm M M1 →
      mv_Run G 195 136 7420 15 [(0, .inr (.inr 88)), (1, .inl s), (2, .inl (rg_mm (rg_run (fun i => (rg_t (sg_hm S s) (sg_sl S s) (fun u => S 8 u) (rg_md C m i).1 (rg_md C m i).2 (S 0 3).toNat).1) (rg_e1 C m) i).1)), (3, .inl (i : Int))] [] (mh l) M1 (mv_qv (mh l) F) := by
    intro k
    induction k with
    | zero =>
      intro i M1 hk rs fr1
      refine vr_X12_findRings_15 ?_
      have e4 : M1 88 46 = (m : Int) - 1 := (fr1 88 46 (by decide) (by decide)).trans cu.1
      rw [e4, if_pos (by omega)]
      have ei : i = m := by omega
      subst ei
      have es : rg_run (fun j => (rg_t (sg_hm S s) (sg_sl S s) (fun u => S 8 u) (rg_md C i j).1 (rg_md C i j).2 (S 0 3).toNat).1) (rg_e1 C i) i = sg_rg S s := rg_S_e ps cn
      rw [es] at rs
      have hn := (rg_run_n (fun j => (rg_t (sg_hm S s) (sg_sl S s) (fun u => S 8 u) (rg_md C i j).1 (rg_md C i j).2 (S 0 3).toNat).1) (rg_e1 C i) i).1
      rw [es] at hn
      exact mv_qv_i (h M1 rs (by omega) (fun a i h1 h2 => (fr1 a i (by omega) (by omega)).trans (fr a i (by omega) (by omega) (by omega))))
    | succ k ih =>
      intro i M1 hk rs fr1
      have e4 : M1 88 46 = (m : Int) - 1 := (fr1 88 46 (by decide) (by decide)).trans cu.1
      have hi : i < m := by omega
      obtain ⟨b1, b2⟩ := bo i hi
      have e120 : ∀ j, M1 120 j = M 120 j := fun j => fr1 120 j (by decide) (by omega)
      have e121 : ∀ j, M1 121 j = M 121 j := fun j => fr1 121 j (by decide) (by omega)
      have hM1 : sg_Mo S M1 := sg_Mo_fr hM (fun a i ha => (fr1 a i (by unfold sg_mc at ha; omega) (by unfold sg_mc at ha; omega)).trans (fr a i (by unfold sg_mc at ha; omega) (by unfold sg_mc at ha; omega) (by unfold sg_mc at ha; omega)))
      have nn := rg_run_n (fun i => (rg_t (sg_hm S s) (sg_sl S s) (fun u => S 8 u) (rg_md C m i).1 (rg_md C m i).2 (S 0 3).toNat).1) (rg_e1 C m) i
      have rt := rg_run_t (fun i => (rg_t (sg_hm S s) (sg_sl S s) (fun u => S 8 u) (rg_md C m i).1 (rg_md C m i).2 (S 0 3).toNat).1) (rg_e1 C m) i
      have K := fun M2 => ih (i + 1) M2 (by omega)
      have er1 : i + 1 < m → rg_e1 C m i = C (i + 1) := fun q => by
        unfold rg_e1
        rw [if_pos q, rg_rd_1 (gc.2 (i + 1) q)]
      have er2 : ¬ i + 1 < m → rg_e1 C m i = (-9, 1) := fun q => by
        unfold rg_e1
        rw [if_neg q]
      -- behind the sample
      have cont : ∀ x y : Int, (0 < x ∧ x ≤ 62219453076000) → (0 < y ∧ y ≤ 19211920200) → rg_in C m i (x, y) → mv_Run G 195 136 7420 124 [(0, .inr (.inr 88)), (1, .inl s), (2, .inl (rg_mm (rg_run (fun i => (rg_t (sg_hm S s) (sg_sl S s) (fun u => S 8 u) (rg_md C m i).1 (rg_md C m i).2 (S 0 3).toNat).1) (rg_e1 C m) i).1)), (3, .inl (i : Int)), (8, .inr (.inl x)), (10, .inr (.inl y))] [] (mh l) M1 (mv_qv (mh l) F) := by
        intro x y hx hy hin
        obtain ⟨t, ht⟩ : ∃ t, t = (rg_t (sg_hm S s) (sg_sl S s) (fun u => S 8 u) (rg_md C m i).1 (rg_md C m i).2 (S 0 3).toNat).1 := ⟨_, rfl⟩
        have tlo : -1 ≤ t := by rw [ht]; exact rg_t_lo _
        have txy : (rg_t (sg_hm S s) (sg_sl S s) (fun u => S 8 u) x y (S 0 3).toNat).1 = t := by
          rw [ht]
          exact rg_T ps cn hi hin (rg_md_in ps hi)
        have e1 : rg_run (fun i => (rg_t (sg_hm S s) (sg_sl S s) (fun u => S 8 u) (rg_md C m i).1 (rg_md C m i).2 (S 0 3).toNat).1) (rg_e1 C m) (i + 1) = rg_st (rg_run (fun i => (rg_t (sg_hm S s) (sg_sl S s) (fun u => S 8 u) (rg_md C m i).1 (rg_md C m i).2 (S 0 3).toNat).1) (rg_e1 C m) i) t (rg_e1 C m i) := by
          rw [ht]
          rfl
        rw [e1] at K
        have slo : -1 ≤ (rg_run (fun i => (rg_t (sg_hm S s) (sg_sl S s) (fun u => S 8 u) (rg_md C m i).1 (rg_md C m i).2 (S 0 3).toNat).1) (rg_e1 C m) i).1 := by
          cases i with
          | zero => exact Int.le_refl _
          | succ i =>
            show -1 ≤ (rg_st _ _ _).1
            unfold rg_st
            split
            · exact Int.le_refl _
            · split <;> exact rg_t_lo _
        generalize rg_run (fun i => (rg_t (sg_hm S s) (sg_sl S s) (fun u => S 8 u) (rg_md C m i).1 (rg_md C m i).2 (S 0 3).toNat).1) (rg_e1 C m) i = st at *
        have e3 : (rg_st st t (rg_e1 C m i)).1 = t := by
          unfold rg_st
          by_cases q : t = -1
          · rw [if_pos q, q]
          · rw [if_neg q]
            split <;> rfl
        rw [e3] at K
        obtain ⟨s5, sj⟩ := rs
        -- the last ring's end
        have fin : ∀ (Mx : mv_Mem) (at' : Nat), at' < 23 → t ≠ -1 → rg_st st t (rg_e1 C m i) = (t, at' + 1, rg_up st.2.2 at' (t, (rg_e1 C m i).1, (rg_e1 C m i).2)) → (∀ j, j < at' → j < st.2.1) → Mx 124 at' = t → (∀ j, j < at' → Mx 124 j = M1 124 j) → (∀ a i, a ≠ 124 → ¬ (a = 88 ∧ i = 47) → Mx a i = M1 a i) → Mx 88 47 = (at' : Int) + 1 →
            ∀ e1 e2 : Int, e1 = (rg_e1 C m i).1 → e2 = (rg_e1 C m i).2 → mv_Run G 195 136 7420 15 [(0, .inr (.inr 88)), (1, .inl s), (2, .inl (rg_mm t)), (3, .inl ((i : Int) + 1))] [] (mh l) (mv_up (mv_up Mx 122 at' e1) 123 at' e2) (mv_qv (mh l) F) := by
          intro Mx at' ha htn hst hj f1 f2 f3 f4 e1 e2 h1 h2
          refine K _ ?_ (fun a i ha hai => ?_)
          · rw [hst]
            refine ⟨?_, fun j hj2 => ?_⟩
            · rw [mv_up_c (by decide), mv_up_c (by decide)]
              exact f4
            · have hj2 : j < at' + 1 := hj2
              dsimp only
              unfold rg_up
              rw [mv_up_c (show (124 : Nat) ≠ 123 by decide), mv_up_c (show (124 : Nat) ≠ 122 by decide), mv_up_c (show (122 : Nat) ≠ 123 by decide)]
              by_cases q : j = at'
              · rw [if_pos q, q, mv_up_s, mv_up_s]
                exact ⟨f1, h1, h2⟩
              · rw [if_neg q, mv_up_j q, mv_up_j q, mv_up_c (show (123 : Nat) ≠ 122 by decide), f2 j (by omega), f3 122 j (by decide) (by omega), f3 123 j (by decide) (by omega)]
                exact sj j (hj j (by omega))
          · rw [mv_up_c (by omega), mv_up_c (by omega), f3 a i (by omega) hai]
            exact fr1 a i ha hai
        refine vr_X12_findRings_124 (md_divisor (by omega) (by omega) ?_)
        obtain ⟨x', hx'⟩ := sg_nat (show 0 ≤ x by omega)
        obtain ⟨y', hy'⟩ := sg_nat (show 0 ≤ y by omega)
        subst hx'
        subst hy'
        rw [Int.natAbs_natCast, Int.natAbs_natCast]
        have g0 : 0 < Nat.gcd x' y' := Nat.gcd_pos_of_pos_right x' (by omega)
        have d1 : ((x' : Int)).tdiv ((Nat.gcd x' y' : Nat) : Int) = ((x' / Nat.gcd x' y' : Nat) : Int) := by rw [sg_td (by omega)]; rfl
        have d2 : ((y' : Int)).tdiv ((Nat.gcd x' y' : Nat) : Int) = ((y' / Nat.gcd x' y' : Nat) : Int) := by rw [sg_td (by omega)]; rfl
        have l1 : x' / Nat.gcd x' y' ≤ x' := Nat.div_le_self _ _
        have l2 : y' / Nat.gcd x' y' ≤ y' := Nat.div_le_self _ _
        have ex : x' / Nat.gcd x' y' * Nat.gcd x' y' = x' := Nat.div_mul_cancel (Nat.gcd_dvd_left _ _)
        have ey : y' / Nat.gcd x' y' * Nat.gcd x' y' = y' := Nat.div_mul_cancel (Nat.gcd_dvd_right _ _)
        have tg : (rg_t (sg_hm S s) (sg_sl S s) (fun u => S 8 u) ((x' / Nat.gcd x' y' : Nat) : Int) ((y' / Nat.gcd x' y' : Nat) : Int) (S 0 3).toNat).1 = t := by
          have sc := rg_t_sc (h := sg_hm S s) (q := sg_sl S s) (kd := fun u => S 8 u) (x := ((x' / Nat.gcd x' y' : Nat) : Int)) (y := ((y' / Nat.gcd x' y' : Nat) : Int)) (g := ((Nat.gcd x' y' : Nat) : Int)) (by omega) (S 0 3).toNat
          rw [← Int.natCast_mul, ← Int.natCast_mul, ex, ey] at sc
          rw [← txy, sc]
        rw [d1, d2]
        clear d1 d2 ex ey txy
        generalize x' / Nat.gcd x' y' = xg at *
        generalize y' / Nat.gcd x' y' = yg at *
        generalize Nat.gcd x' y' = gg at *
        refine ⟨⟨by omega, by omega⟩, ⟨by omega, by omega⟩, md_useAt hw hM1 hs (by omega) (by omega) ?_⟩
        rw [tg]
        have mb := rg_mm_b tlo
        have mb2 := rg_mm_b slo
        by_cases t1 : t = -1
        · rw [if_pos (mb.1.2 t1), if_pos (mb.1.2 t1)]
          refine ⟨by omega, K M1 ?_ fr1⟩
          unfold rg_st
          rw [if_pos t1]
          exact ⟨s5, sj⟩
        · have emm := mb.2 t1
          have fin' := fin
          rw [emm] at fin' ⊢
          rw [if_neg (by omega)]
          by_cases t2 : t = st.1
          · have hc := nn.2 (by rw [← t2]; exact t1)
            have es := mb2.2 (by rw [← t2]; exact t1)
            have hst : rg_st st t (rg_e1 C m i) = (t, st.2.1 - 1 + 1, rg_up st.2.2 (st.2.1 - 1) (t, (rg_e1 C m i).1, (rg_e1 C m i).2)) := by
              unfold rg_st
              rw [if_neg t1, if_pos t2, show st.2.1 - 1 + 1 = st.2.1 by omega]
            have f124 : M1 124 (st.2.1 - 1) = t := by
              rw [(sj (st.2.1 - 1) (by omega)).1, t2]
              exact rt (by rw [← t2]; exact t1)
            have ff := fin' M1 (st.2.1 - 1) (by omega) t1 hst (fun j hj => by omega) f124 (fun _ _ => rfl) (fun _ _ _ _ => rfl) (by omega)
            rw [es, if_pos t2, if_neg (by omega)]
            simp only [mv_up_c (show (88 : Nat) ≠ 122 by decide), mv_up_c (show (88 : Nat) ≠ 123 by decide), mv_up_c (show (121 : Nat) ≠ 122 by decide), s5, e4, show (((st.2.1 : Nat) : Int) - 1).toNat = st.2.1 - 1 by omega, Int.toNat_natCast]
            by_cases q : i + 1 < m
            · obtain ⟨c3, c4⟩ := cu.2 i q
              rw [if_neg (by omega), if_neg (by omega), e120, e121, c3, c4]
              rw [er1 q] at ff
              exact ⟨by omega, by omega, by omega, by omega, by omega, by omega, by omega, ff _ _ rfl rfl⟩
            · rw [if_pos (by omega), if_pos (by omega)]
              rw [er2 q] at ff
              exact ⟨by omega, by omega, by omega, by omega, by omega, ff _ _ rfl rfl⟩
          · have es : ¬ t = rg_mm st.1 := by
              unfold rg_mm
              split
              · omega
              · exact t2
            have hst : rg_st st t (rg_e1 C m i) = (t, st.2.1 + 1, rg_up st.2.2 st.2.1 (t, (rg_e1 C m i).1, (rg_e1 C m i).2)) := by
              unfold rg_st
              rw [if_neg t1, if_neg t2]
            have ff := fin' (mv_up (mv_up M1 124 st.2.1 t) 88 47 ((st.2.1 : Int) + 1)) st.2.1 (by omega) t1 hst (fun j hj => hj) (by rw [mv_up_c (by decide), mv_up_s]) (fun j hj => by rw [mv_up_c (by decide), mv_up_j (by omega)]) (fun a i h1 h2 => by rw [mv_up_n h2, mv_up_c h1]) mv_up_s
            rw [if_neg es, if_neg (by omega)]
            simp only [mv_up_s, mv_up_c (show (88 : Nat) ≠ 124 by decide), mv_up_c (show (88 : Nat) ≠ 122 by decide), mv_up_c (show (88 : Nat) ≠ 123 by decide), mv_up_c (show (121 : Nat) ≠ 122 by decide), mv_up_c (show (121 : Nat) ≠ 88 by decide), mv_up_c (show (121 : Nat) ≠ 124 by decide), mv_up_c (show (120 : Nat) ≠ 88 by decide), mv_up_c (show (120 : Nat) ≠ 124 by decide), mv_up_j (show 46 ≠ 47 by decide), s5, e4, Int.add_sub_cancel, Int.toNat_natCast]
            by_cases q : i + 1 < m
            · obtain ⟨c3, c4⟩ := cu.2 i q
              rw [if_neg (by omega), if_neg (by omega), e120, e121, c3, c4]
              rw [er1 q] at ff
              exact ⟨by omega, by omega, by omega, by omega, by omega, by omega, by omega, by omega, by omega, ff _ _ rfl rfl⟩
            · rw [if_pos (by omega), if_pos (by omega)]
              rw [er2 q] at ff
              exact ⟨by omega, by omega, by omega, by omega, by omega, by omega, by omega, ff _ _ rfl rfl⟩
      -- the sample
      have samp : mv_Run G 195 136 7420 59 [(0, .inr (.inr 88)), (1, .inl s), (2, .inl (rg_mm (rg_run (fun i => (rg_t (sg_hm S s) (sg_sl S s) (fun u => S 8 u) (rg_md C m i).1 (rg_md C m i).2 (S 0 3).toNat).1) (rg_e1 C m) i).1)), (3, .inl (i : Int)), (4, .inr (.inl (C i).1)), (6, .inr (.inl (C i).2))] [] (mh l) M1 (mv_qv (mh l) F) := by
        refine vr_X12_findRings_59 ?_
        rw [e4]
        by_cases q : i + 1 < m
        · obtain ⟨c3, c4⟩ := cu.2 i q
          obtain ⟨b3, b4⟩ := bo (i + 1) q
          have m1 := rg_mb (a := (C i).1) (b := (C (i + 1)).2) (A := 317413800) (B := 98010) (by omega) (by omega)
          have m2 := rg_mb (a := (C (i + 1)).1) (b := (C i).2) (A := 317413800) (B := 98010) (by omega) (by omega)
          have m3 := rg_mb (a := 2 * (C i).2) (b := (C (i + 1)).2) (A := 196020) (B := 98010) (by omega) (by omega)
          have p1 : 0 ≤ (C i).1 * (C (i + 1)).2 := Int.mul_nonneg b1.1 (by omega)
          have p2 : 0 < (C (i + 1)).1 * (C i).2 := Int.mul_pos (rg_ps_0 ps (by omega) q) (by omega)
          have p3 : 0 < 2 * (C i).2 * (C (i + 1)).2 := Int.mul_pos (by omega) (by omega)
          have lt := ps.2.2.2 i q
          unfold fr_l at lt
          rw [if_neg (by omega), Int.toNat_natCast, e120, e121, c3, c4]
          refine ⟨by omega, by omega, by omega, by omega, by omega, vr_X12_findRings_96 ?_⟩
          rw [e4, if_neg (by omega), Int.toNat_natCast, e121, c4]
          refine ⟨by omega, by omega, by omega, cont _ _ (by omega) (by omega) ⟨by dsimp only; omega, ?_, fun _ => ?_⟩⟩
          · show (C i).1 * (2 * (C i).2 * (C (i + 1)).2) < ((C i).1 * (C (i + 1)).2 + (C (i + 1)).1 * (C i).2) * (C i).2
            have t1 : (C i).1 * (C (i + 1)).2 * (C i).2 < (C (i + 1)).1 * (C i).2 * (C i).2 := Int.mul_lt_mul_of_pos_right lt (by omega)
            have t2 : (C i).1 * (2 * (C i).2 * (C (i + 1)).2) = 2 * ((C i).1 * (C (i + 1)).2 * (C i).2) := by
              rw [Int.mul_assoc 2, Int.mul_left_comm, Int.mul_comm (C i).2, ← Int.mul_assoc (C i).1]
            rw [t2, Int.add_mul]
            omega
          · show ((C i).1 * (C (i + 1)).2 + (C (i + 1)).1 * (C i).2) * (C (i + 1)).2 < (C (i + 1)).1 * (2 * (C i).2 * (C (i + 1)).2)
            have t1 : (C i).1 * (C (i + 1)).2 * (C (i + 1)).2 < (C (i + 1)).1 * (C i).2 * (C (i + 1)).2 := Int.mul_lt_mul_of_pos_right lt (by omega)
            have t2 : (C (i + 1)).1 * (2 * (C i).2 * (C (i + 1)).2) = 2 * ((C (i + 1)).1 * (C i).2 * (C (i + 1)).2) := by
              rw [Int.mul_assoc 2, Int.mul_left_comm, ← Int.mul_assoc (C (i + 1)).1]
            rw [t2, Int.add_mul]
            omega
        · rw [if_pos (by omega)]
          refine ⟨by omega, vr_X12_findRings_96 ?_⟩
          rw [e4, if_pos (by omega)]
          refine cont _ _ (by omega) (by omega) ⟨by dsimp only; omega, ?_, fun z => absurd z q⟩
          show (C i).1 * (C i).2 < ((C i).1 + (C i).2) * (C i).2
          rw [Int.add_mul]
          have := Int.mul_pos b2.1 b2.1
          omega
      refine vr_X12_findRings_15 ?_
      rw [e4, if_neg (by omega)]
      by_cases i0 : i = 0
      · subst i0
        have c0 := gc.1
        rw [c0] at samp
        rw [if_pos (by rfl)]
        refine vr_X12_findRings_41 ?_
        rw [if_pos (by rfl)]
        exact samp
      · obtain ⟨c3, c4⟩ := cu.2 (i - 1) (by omega)
        rw [show i - 1 + 1 = i by omega] at c3 c4
        rw [if_neg (by omega), show ((i : Int) - 1).toNat = i - 1 by omega, e120, c3]
        refine ⟨by omega, by omega, vr_X12_findRings_41 ?_⟩
        rw [if_neg (by omega), show ((i : Int) - 1).toNat = i - 1 by omega, e121, c4]
        exact ⟨by omega, by omega, samp⟩
  exact key m 0 _ (by omega) ⟨mv_up_s, fun j hj => absurd hj (Nat.not_lt_zero j)⟩ (fun a i h1 h2 => mv_up_n h2)
theorem sg_MM_rg {M' : mv_Mem} (h : sg_MM S M) (hf : ∀ a i, ¬ (120 ≤ a ∧ a ≤ 124) → ¬ (a = 88 ∧ (i = 46 ∨ i = 47)) → M' a i = M a i) : sg_MM S M' :=
  sg_MM_q h (fun a i ha => hf a i (by omega) (by omega)) (fun _ _ _ => rfl) (sg_Mo_fr h.1 (fun a i ha => hf a i (by unfold sg_mc at ha; omega) (by unfold sg_mc at ha; omega))) (sg_Rl_fr h.2.1 (hf 88 17 (by decide) (by decide)) (fun a i a1 a2 => hf a i (by omega) (by omega)))
theorem ma_ring (hS : sg_oo c S) (hc : c ≤ 100000) (h : sg_MM S M) {a b : Int} (hF : ∀ M', sg_Y M M' → sg_MM (sa_ring S a b).2 M' → F (sa_ring S a b).1 M') : mv_Wp G 196 [.inr (.inr 88), .inl a, .inl b] (mh l) M (mv_qi (mh l) F) := by
  have hw := hS.1
  have hM := h.1
  have c23 : M 88 23 = S 0 2 := hM.1.2.2.1
  unfold sa_ring at hF
  refine vw_X12_ring ?_
  by_cases z1 : a < 0
  · rw [if_pos (Or.inl z1)] at hF
    rw [if_pos z1, if_neg (by decide)]
    exact md_no2 hS hc h _ (by decide) hF
  rw [if_neg z1]
  by_cases z2 : b < 0
  · rw [if_pos (Or.inr z2)] at hF
    rw [if_neg (by omega), if_neg (by decide)]
    exact md_no2 hS hc h _ (by decide) hF
  rw [if_neg (by omega)] at hF
  rw [if_pos (by omega)]
  by_cases z3 : 9 < a
  · rw [if_pos (Or.inl z3)] at hF
    rw [if_pos z3, if_neg (by decide)]
    exact md_no2 hS hc h _ (by decide) hF
  rw [if_neg z3]
  by_cases z4 : 9 < b
  · rw [if_pos (Or.inr z4)] at hF
    rw [if_neg (by omega), if_neg (by decide)]
    exact md_no2 hS hc h _ (by decide) hF
  rw [if_neg (by omega)] at hF
  rw [if_pos (by omega), c23]
  by_cases z5 : S 0 2 = 0
  · rw [if_pos z5] at hF
    rw [if_pos z5, if_neg (by decide)]
    exact md_no2 hS hc h _ (by decide) hF
  rw [if_neg z5] at hF
  rw [if_neg z5, if_pos rfl]
  refine md_findRings hw hM (by omega) (fun M1 rs hn fr => ?_)
  have hh := hF M1 (fun a i ha => fr a i (by omega) (by omega)) (sg_MM_rg h fr)
  dsimp only at hh
  rw [rs.1]
  by_cases z : b < ((sg_rg S a).2.1 : Int)
  · rw [if_pos z] at hh
    rw [if_neg (by omega), (rs.2 b.toNat (by omega)).1]
    exact ⟨by omega, mv_qi_i hh⟩
  · rw [if_neg z] at hh
    rw [if_pos (by omega)]
    exact mv_qi_i hh
theorem ma_edge (hS : sg_oo c S) (hc : c ≤ 100000) (h : sg_MM S M) {a b p : Int} (hF : ∀ M', sg_Y M M' → sg_MM (sa_edge S a b p).2 M' → F (sa_edge S a b p).1 M') : mv_Wp G 197 [.inr (.inr 88), .inl a, .inl b, .inl p] (mh l) M (mv_ql (mh l) F) := by
  have hw := hS.1
  have hM := h.1
  have c23 : M 88 23 = S 0 2 := hM.1.2.2.1
  unfold sa_edge at hF
  refine vw_X12_edge (md_isIn (fun q => ?_) (fun q => ?_))
  · rw [if_neg (by omega)] at hF
    rw [if_neg (by decide)]
    by_cases z1 : a < 0
    · rw [if_pos (Or.inl z1)] at hF
      rw [if_pos z1, if_neg (by decide)]
      exact md_noL2 hS hc h _ (by decide) hF
    rw [if_neg z1]
    by_cases z2 : b < 0
    · rw [if_pos (Or.inr z2)] at hF
      rw [if_neg (by omega), if_neg (by decide)]
      exact md_noL2 hS hc h _ (by decide) hF
    rw [if_neg (by omega)] at hF
    rw [if_pos (by omega)]
    by_cases z3 : 9 < a
    · rw [if_pos (Or.inl z3)] at hF
      rw [if_pos z3, if_neg (by decide)]
      exact md_noL2 hS hc h _ (by decide) hF
    rw [if_neg z3]
    by_cases z4 : 9 < b
    · rw [if_pos (Or.inr z4)] at hF
      rw [if_neg (by omega), if_neg (by decide)]
      exact md_noL2 hS hc h _ (by decide) hF
    rw [if_neg (by omega)] at hF
    rw [if_pos (by omega), c23]
    by_cases z5 : S 0 2 = 0
    · rw [if_pos z5] at hF
      rw [if_pos z5, if_neg (by decide)]
      exact md_noL2 hS hc h _ (by decide) hF
    rw [if_neg z5] at hF
    rw [if_neg z5, if_pos rfl]
    refine md_findRings hw hM (by omega) (fun M1 rs hn fr => ?_)
    have y1 : sg_Y M M1 := fun a i ha => fr a i (by omega) (by omega)
    rw [rs.1]
    by_cases z : ((sg_rg S a).2.1 : Int) ≤ b
    · rw [if_pos z] at hF
      rw [if_neg (by omega)]
      exact md_noL2 hS hc (sg_MM_rg h fr) _ (by decide) (fun M' x2 c2 => hF M' (sg_Y_t y1 x2) c2)
    · rw [if_neg z] at hF
      have hh := hF M1 y1 (sg_MM_rg h fr)
      dsimp only at hh
      obtain ⟨r1, r2, r3⟩ := rs.2 b.toNat (by omega)
      rw [if_pos (by omega), r2, r3]
      by_cases y : p = 0
      · rw [if_pos y] at hh
        rw [if_pos y]
        exact ⟨by omega, mv_ql_i hh⟩
      · rw [if_neg y] at hh
        rw [if_neg y]
        exact ⟨by omega, mv_ql_i hh⟩
  · rw [if_pos (by omega)] at hF
    rw [if_pos rfl]
    exact md_noL2 hS hc h _ (by decide) hF
end RL
