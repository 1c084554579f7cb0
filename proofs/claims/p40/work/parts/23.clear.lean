/-! THE CLASS's CLEARING PRICE, BY HALVING -/
section CL
variable {S : mv_Mem} {G : mv_G} {l : Nat} {M : mv_Mem} {F : Int → mv_Mem → Prop}
theorem sg_fo_S {S' : mv_Mem} {f : Nat → Int → Int} {a : Int} (h : ∀ k, sg_ok S' k = sg_ok S k) : ∀ n, sg_fo S' f a n = sg_fo S f a n
  | 0 => rfl
  | n + 1 => by
    show sg_if (sg_ok S' n) _ _ = sg_if (sg_ok S n) _ _
    rw [sg_fo_S h n, h n]
theorem sg_fo_mono {f g : Nat → Int → Int} {a : Int} (h : ∀ k x y, sg_ok S k → x ≤ y → f k x ≤ g k y) : ∀ n, sg_fo S f a n ≤ sg_fo S g a n
  | 0 => Int.le_refl _
  | n + 1 => by
    by_cases q : sg_ok S n
    · rw [sg_fo_s q, sg_fo_s q]
      exact h n _ _ q (sg_fo_mono h n)
    · rw [sg_fo_n q, sg_fo_n q]
      exact sg_fo_mono h n
theorem sg_bs_mono (hw : sg_wf S) {v w : Int} (h : v ≤ w) : ∀ (n i : Nat), i + n ≤ 108 → sg_bs S w n i ≤ sg_bs S v n i
  | 0, _, _ => Int.le_refl _
  | n + 1, i, hi => by
    have h1 := sg_bs_mono hw h n (i + 1) (by omega)
    have h2 := sg_w17 hw (show i < 108 by omega)
    unfold sg_bs
    split <;> split <;> omega
theorem sg_bo_mono (hw : sg_wf S) {o : Nat} (ho : o < 18) {v w : Int} (h : v ≤ w) : sg_bo S o w ≤ sg_bo S o v := by
  have := (sg_w16 hw ho).2
  exact sg_bs_mono hw h _ _ (by omega)
/-- what lies in the cells 73, 74: least prices, yields -/
def sg_lp (S M : mv_Mem) (o k : Nat) : Prop := (0 ≤ M 73 (sg_pl S k) ∧ M 73 (sg_pl S k) ≤ 1000) ∧ M 74 (sg_pl S k) = sg_yl S (o / 3) (S 1 k) ∧ ∀ v, 0 ≤ v → v ≤ 999 → 0 < sg_yl S (o / 3) (S 1 k) → (M 73 (sg_pl S k) ≤ v ↔ sg_go (mv_up S 16 o v) o k)
def sg_cmf (S M : mv_Mem) (o : Nat) (v : Int) : Nat → Int → Int := fun k x => if v < M 73 (sg_pl S k) then x else x + sg_yl S (o / 3) (S 1 k)
theorem sg_cm_e (hw : sg_wf S) {o : Nat} (ho : o < 18) (hl : ∀ k, sg_ok S k → sg_lp S M o k) {v : Int} (h0 : 0 ≤ v) (h9 : v ≤ 999) : sg_fo S (sg_cmf S M o v) 0 48 = sg_cm (mv_up S 16 o v) o := by
  unfold sg_cm
  rw [sg_fo_S (S := S) (S' := mv_up S 16 o v) (fun k => rfl)]
  refine sg_fo_c (fun k x hk => ?_) 48
  obtain ⟨l1, l2, l3⟩ := hl k hk
  have hy := sg_yl_b hw (show o / 3 < 6 by omega) (sg_s1 hw hk)
  show (if v < M 73 (sg_pl S k) then x else x + sg_yl S (o / 3) (S 1 k)) = sg_if (sg_go (mv_up S 16 o v) o k) (x + sg_yl S (o / 3) (S 1 k)) x
  by_cases z : 0 < sg_yl S (o / 3) (S 1 k)
  · have l4 := l3 v h0 h9 z
    split
    · rename_i q
      rw [sg_if_n (fun y => by have := l4.2 y; omega)]
    · rename_i q
      rw [sg_if_y (l4.1 (by omega))]
  · rw [show sg_yl S (o / 3) (S 1 k) = 0 by omega, Int.add_zero]
    unfold sg_if
    split <;> split <;> rfl
theorem cl_comingAt (hw : sg_wf S) {o : Nat} (ho : o < 18) {n48 : Nat} (hn1 : (n48 : Int) = S 0 0 * S 0 1) (hl : ∀ k, sg_ok S k → sg_lp S M o k) {v : Int} (h0 : 0 ≤ v) (h9 : v ≤ 999) (h : F (sg_cm (mv_up S 16 o v) o) M) : mv_Wp G 51 [.inr (.inr 72), .inl v, .inl (n48 : Int)] (mh l) M (mv_qi (mh l) F) := by
  rw [← sg_cm_e hw ho hl h0 h9] at h
  have hn2 : n48 ≤ 48 := by
    obtain ⟨n, q1, q2⟩ := sg_n48 hw
    omega
  have hb := fun n hn => sg_fp_b (f := sg_cmf S M o v) (a := 0) hw (b := 990) (by omega) (fun k x hk => by have := sg_yl_b hw (show o / 3 < 6 by omega) (sg_s1 hw hk); unfold sg_cmf; split <;> omega) n hn
  have key : ∀ (n p : Nat), p + n = n48 → mv_Run G 51 87 4749 5 [(0, .inr (.inr 72)), (1, .inl v), (2, .inl (n48 : Int)), (3, .inl (sg_fp S (sg_cmf S M o v) 0 p)), (4, .inl (p : Int))] [] (mh l) M (mv_qi (mh l) F) := by
    intro n
    induction n with
    | zero =>
      intro p hp
      refine vr_X6_comingAt_5 ?_
      rw [if_pos (by omega), show p = n48 by omega, ← sg_fo_fp hw hn1]
      exact mv_qi_i h
    | succ n ih =>
      intro p hp
      refine vr_X6_comingAt_5 ?_
      obtain ⟨k, hk, rfl⟩ := sg_pl_sur hw (p := p) (by omega)
      obtain ⟨l1, l2, l3⟩ := hl k hk
      have h1 := hb (sg_pl S k) (by omega)
      have h2 := sg_yl_b hw (show o / 3 < 6 by omega) (sg_s1 hw hk)
      have e := sg_fp_pl (f := sg_cmf S M o v) (a := 0) hw hk
      have K := ih (sg_pl S k + 1) (by omega)
      rw [e] at K
      unfold sg_cmf at K
      rw [if_neg (by omega), Int.toNat_natCast, l2]
      refine ⟨by omega, ?_⟩
      split
      · rename_i q
        rw [if_pos q] at K
        exact ⟨by omega, K⟩
      · rename_i q
        rw [if_neg q] at K
        exact ⟨by omega, by omega, by omega, K⟩
  refine vw_X6_comingAt ?_
  exact key n48 0 (by omega)
theorem sg_Bd_fr {M' : mv_Mem} (hB : sg_Bd S M) (h : ∀ i, M' 42 i = M 42 i) : sg_Bd S M' := fun o k h1 h2 h3 => (h _).trans (hB o k h1 h2 h3)
theorem sg_Tk_fr {M' : mv_Mem} (hT : sg_Tk S M) (h : ∀ i, M' 43 i = M 43 i) : sg_Tk S M' := fun k h3 => (h _).trans (hT k h3)
theorem cl_clearingPrice (hw : sg_wf S) {M0 : mv_Mem} (hC : sg_C 0 S M0) (hW : sg_W S M0) (hB : sg_Bd S M0) {o : Nat} (ho : o < 18) (hou : (o : Int) < 3 * S 0 3) (hm : ((o % 3 : Nat) : Int) < S 0 2)
    (h : ∀ M, (∀ a i, a ≠ 73 → a ≠ 74 → M a i = M0 a i) → F (sg_clr S o) M) : mv_Wp G 50 [.inr (.inr 72), .inr (.inr 6), .inl (o : Int)] (mh l) M0 (mv_qi (mh l) F) := by
  obtain ⟨n48, hn1, hn2⟩ := sg_n48 hw
  have e1 : Int.tdiv (o : Int) 3 = ((o / 3 : Nat) : Int) := by rw [sg_td (by omega)]; omega
  -- the halving
  have half : ∀ (M : mv_Mem), (∀ a i, a ≠ 73 → a ≠ 74 → M a i = M0 a i) → (∀ k, sg_ok S k → sg_lp S M o k) → ∀ (j : Nat) (t : Int), j ≤ 10 → (t = -1 ∨ (0 ≤ t ∧ t ≤ 999 ∧ sg_cm (mv_up S 16 o t) o < sg_bo S o t)) → (∀ w, 0 ≤ w → w ≤ 999 → t + ((2 ^ j : Nat) : Int) ≤ w → ¬ sg_cm (mv_up S 16 o w) o < sg_bo S o w) →
      mv_Run G 50 87 4749 80 [(0, .inr (.inr 72)), (2, .inl (o : Int)), (3, .inr (.inr 8)), (4, .inr (.inr 17)), (5, .inl t), (6, .inl ((2 ^ j / 2 : Nat) : Int))] [] (mh l) M (mv_qi (mh l) F) := by
    intro M hfr hl j
    have hCM : sg_C 0 S M := sg_C_fr hC (fun c h1 h2 i => hfr c i (by omega) (by omega))
    have c2 : M 8 2 = (n48 : Int) := hCM.1.2.2.1.trans hn1.symm
    have mono : ∀ v w : Int, 0 ≤ v → v ≤ w → w ≤ 999 → sg_cm (mv_up S 16 o w) o < sg_bo S o w → sg_cm (mv_up S 16 o v) o < sg_bo S o v := by
      intro v w h0 h1 h9 hlt
      have a1 := sg_bo_mono hw ho h1
      have a2 : sg_fo S (sg_cmf S M o v) 0 48 ≤ sg_fo S (sg_cmf S M o w) 0 48 := sg_fo_mono (fun k x y hk hxy => by
        have := sg_yl_b hw (show o / 3 < 6 by omega) (sg_s1 hw hk)
        unfold sg_cmf
        split <;> split <;> omega) 48
      rw [sg_cm_e hw ho hl h0 (by omega), sg_cm_e hw ho hl (by omega) h9] at a2
      omega
    induction j with
    | zero =>
      intro t hj ht hup
      refine vr_X6_clearingPrice_80 ?_
      rw [if_pos (by decide)]
      have hall : ∀ w : Nat, (w : Int) ≤ t → ¬ sg_bo S o (w : Int) ≤ sg_cm (mv_up S 16 o (w : Int)) o := by
        intro w hwt
        rcases ht with z | ⟨z1, z2, z3⟩
        · omega
        · have := mono (w : Int) t (by omega) hwt z2 z3
          omega
      split
      · rename_i q
        have e : sg_clr S o = -9 := sg_cf_n (fun w hw1 => hall w (by omega))
        have hh := h M hfr
        rw [e] at hh
        exact mv_qi_i hh
      · rename_i q
        obtain ⟨v, hv⟩ := sg_nat (show 0 ≤ t + 1 by omega)
        have e : sg_clr S o = (v : Int) := sg_cf_y (by omega) (by
          have := hup (v : Int) (by omega) (by omega) (by omega)
          show sg_bo S o (v : Int) ≤ sg_cm (mv_up S 16 o (v : Int)) o
          omega) (fun w hw1 => hall w (by omega))
        have hh := h M hfr
        rw [e, ← hv] at hh
        exact ⟨by omega, mv_qi_i hh⟩
    | succ j ih =>
      intro t hj ht hup
      refine vr_X6_clearingPrice_80 ?_
      have e2 : 2 ^ (j + 1) / 2 = 2 ^ j := by rw [Nat.pow_succ]; omega
      have hpos : 0 < 2 ^ j := Nat.pow_pos (by decide)
      have hle : 2 ^ j ≤ 2 ^ 9 := Nat.pow_le_pow_right (by decide) (by omega)
      have e4 : ((2 ^ (j + 1) : Nat) : Int) = 2 * ((2 ^ j : Nat) : Int) := by rw [Nat.pow_succ, Int.natCast_mul, Int.mul_comm]; rfl
      rw [e4] at hup
      rw [e2]
      clear e2 e4
      generalize hS : 2 ^ j = s at *
      have e3 : Int.tdiv ((s : Nat) : Int) 2 = ((s / 2 : Nat) : Int) := by rw [sg_td (by omega)]; omega
      rw [e3]
      rw [if_neg (by omega)]
      refine ⟨by omega, ?_⟩
      split
      · rename_i q
        exact ⟨⟨by decide, by omega⟩, ih t (by omega) ht (fun w h0 h9 hge => by omega)⟩
      · rename_i q
        rw [c2]
        refine cl_comingAt hw ho hn1 hl (by omega) (by omega) (cl_boughtAt hw hCM ho ?_)
        split
        · rename_i q2
          refine ⟨⟨by decide, by omega⟩, ih t (by omega) ht (fun w h0 h9 hge hlt => ?_)⟩
          have := mono (t + (s : Int)) w (by omega) hge h9 hlt
          omega
        · rename_i q2
          exact ⟨⟨by decide, by omega⟩, ih (t + (s : Int)) (by omega) (Or.inr ⟨by omega, by omega, by omega⟩) (fun w h0 h9 hge => hup w h0 h9 (by omega))⟩
  have key : ∀ (n p : Nat) (M : mv_Mem), p + n = n48 → (∀ a i, a ≠ 73 → a ≠ 74 → M a i = M0 a i) → (∀ k, sg_ok S k → sg_pl S k < p → sg_lp S M o k) →
      mv_Run G 50 87 4749 20 [(0, .inr (.inr 72)), (1, .inr (.inr 6)), (2, .inl (o : Int)), (3, .inr (.inr 8)), (4, .inr (.inr 17)), (5, .inl (p : Int))] [] (mh l) M (mv_qi (mh l) F) := by
    intro n
    induction n with
    | zero =>
      intro p M hp hfr hd
      refine vr_X6_clearingPrice_20 ?_
      have c2 : M 8 2 = (n48 : Int) := ((hfr 8 2 (by decide) (by decide)).trans hC.1.2.2.1).trans hn1.symm
      rw [c2, if_pos (by omega)]
      exact half M hfr (fun k hk => hd k hk (by have := (sg_pl_lt hw hk).1; omega)) 10 (-1) (by omega) (Or.inl rfl) (fun w h0 h9 hge => by
        have : ((2 ^ 10 : Nat) : Int) = 1024 := rfl
        omega)
    | succ n ih =>
      intro p M hp hfr hd
      refine vr_X6_clearingPrice_20 ?_
      have hCM : sg_C 0 S M := sg_C_fr hC (fun c h1 h2 i => hfr c i (by omega) (by omega))
      have c2 : M 8 2 = (n48 : Int) := hCM.1.2.2.1.trans hn1.symm
      obtain ⟨k, hk, rfl⟩ := sg_pl_sur hw (p := p) (by omega)
      have hq := (sg_pl_lt hw hk).2
      have c3 : M 10 (sg_pl S k) = S 1 k := (hCM.2.1 k hk).2.1
      rw [c2, if_neg (by omega), Int.toNat_natCast, c3, e1]
      refine ⟨⟨by decide, by omega⟩, by omega, cl_yieldOn hw hCM (by omega) (sg_s1 hw hk) ⟨by omega, ?_⟩⟩
      have hfr1 : ∀ a i, a ≠ 73 → a ≠ 74 → (mv_up M 74 (sg_pl S k) (sg_yl S (o / 3) (S 1 k))) a i = M0 a i := fun a i a1 a2 => by rw [mv_up_n (fun z => a2 z.1)]; exact hfr a i a1 a2
      refine cl_leastPriceFor hw (sg_C_fr hC (fun c h1 h2 i => hfr1 c i (by omega) (by omega))) (sg_W_fr hW (fun c h1 h2 _ i => hfr1 c i (by omega) (by omega))) (sg_Bd_fr hB (fun i => hfr1 42 i (by decide) (by decide))) ho hou hm hk mv_up_s (fun x x0 x1 hx => ⟨by omega, by omega, ih (sg_pl S k + 1) _ (by omega) (fun a i a1 a2 => by rw [mv_up_n (fun z => a1 z.1)]; exact hfr1 a i a1 a2) (fun j hj hlt => ?_)⟩)
      by_cases q : j = k
      · subst q
        refine ⟨?_, ?_, ?_⟩
        · rw [mv_up_s]
          omega
        · rw [mv_up_n (fun z => by omega), mv_up_s]
        · rw [mv_up_s]
          exact hx
      · have hne : sg_pl S j ≠ sg_pl S k := fun z => q (sg_pl_inj hw hj hk z)
        have g1 : (mv_up (mv_up M 74 (sg_pl S k) (sg_yl S (o / 3) (S 1 k))) 73 (sg_pl S k) x) 73 (sg_pl S j) = M 73 (sg_pl S j) := by rw [mv_up_n (fun z => hne z.2), mv_up_n (fun z => hne z.2)]
        have g2 : (mv_up (mv_up M 74 (sg_pl S k) (sg_yl S (o / 3) (S 1 k))) 73 (sg_pl S k) x) 74 (sg_pl S j) = M 74 (sg_pl S j) := by rw [mv_up_n (fun z => hne z.2), mv_up_n (fun z => hne z.2)]
        unfold sg_lp
        rw [g1, g2]
        exact hd j hj (by omega)
  refine vw_X6_clearingPrice ?_
  exact key n48 0 M0 (by omega) (fun _ _ _ _ => rfl) (fun _ _ hlt => by omega)
end CL
