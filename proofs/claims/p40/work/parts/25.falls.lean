/-! THE CLASS: WHAT FALLS WASTE, THE WAY BETWEEN TWO ACRES, WHAT IS HELD, SETTLING -/
noncomputable def sg_hel (S : mv_Mem) : Int := sg_fo S (fun k x => x + S 4 k) 0 48
/-- all is settled -/
def sg_Z (S M : mv_Mem) : Prop := sg_W S M ∧ sg_Bd S M ∧ sg_Tk S M
/-- what is so of the class between two calls -/
def sg_K (S M : mv_Mem) : Prop := sg_C 0 S M ∧ (M 6 6 = 0 ∨ M 6 6 = 1) ∧ (M 6 7 = 0 ∨ M 6 7 = 1) ∧ (M 6 6 = 1 → sg_W S M) ∧ (M 6 6 = 0 → M 6 7 = 0) ∧ (M 6 7 = 1 → sg_Bd S M ∧ sg_Tk S M)
section FA
variable {S : mv_Mem} {G : mv_G} {l : Nat} {M : mv_Mem} {F : Int → mv_Mem → Prop}
theorem cl_offerOf {u m : Nat} (hu : u < 6) (hm : m < 3) (h : F ((3 * u + m : Nat) : Int) M) : mv_Wp G 131 [.inl (u : Int), .inl (m : Int)] (mh l) M (mv_qi (mh l) F) := by
  refine vw_X11_offerOf ?_
  rw [show (u : Int) * 3 + (m : Int) = ((3 * u + m : Nat) : Int) by omega]
  exact ⟨by omega, by omega, mv_qi_i h⟩
theorem cl_idleAcres (hw : sg_wf S) (hC : sg_C 0 S M) (h : F (sg_hel S) M) : mv_Wp G 10 [.inr (.inr 8)] (mh l) M (mv_qi (mh l) F) := by
  obtain ⟨n48, hn1, hn2⟩ := sg_n48 hw
  have c2 : M 8 2 = (n48 : Int) := hC.1.2.2.1.trans hn1.symm
  have h4 : ∀ k, sg_ok S k → 0 ≤ S 4 k ∧ S 4 k ≤ 1 := fun k hk => hw.2.1.2.2.2.1 k (sg_ok_48 hw hk)
  have hb := fun n hn => sg_fp_b (f := fun k x => x + S 4 k) (a := 0) hw (b := 1) (by omega) (fun k x hk => by have := h4 k hk; omega) n hn
  have key : ∀ (n p : Nat), p + n = n48 → mv_Run G 10 87 4749 4 [(0, .inr (.inr 8)), (1, .inl (sg_fp S (fun k x => x + S 4 k) 0 p)), (2, .inl (p : Int))] [] (mh l) M (mv_qi (mh l) F) := by
    intro n
    induction n with
    | zero =>
      intro p hp
      refine vr_X0_idleAcres_4 ?_
      rw [c2, if_pos (by omega), show p = n48 by omega, ← sg_fo_fp hw hn1]
      exact mv_qi_i h
    | succ n ih =>
      intro p hp
      refine vr_X0_idleAcres_4 ?_
      obtain ⟨k, hk, rfl⟩ := sg_pl_sur hw (p := p) (by omega)
      have h1 := hb (sg_pl S k) (by omega)
      have h2 := h4 k hk
      have e := sg_fp_pl (f := fun k x => x + S 4 k) (a := 0) hw hk
      have K := ih (sg_pl S k + 1) (by omega)
      rw [e] at K
      have c3 : M 13 (sg_pl S k) = S 4 k := (hC.2.1 k hk).2.2.2.2.1
      rw [c2, if_neg (by omega), Int.toNat_natCast, c3]
      exact ⟨by omega, by omega, by omega, K⟩
  refine vw_X0_idleAcres ?_
  exact key n48 0 (by omega)
/-! another tax -/
theorem sg_wf_13 (hw : sg_wf S) {i : Nat} {v : Int} (hi : (i : Int) < S 0 3) (hv : 0 ≤ v ∧ v ≤ 9999) : sg_wf (mv_up S 13 i v) := by
  refine ⟨hw.1, hw.2.1, hw.2.2.1, hw.2.2.2.1, ⟨hw.2.2.2.2.1.1, hw.2.2.2.2.1.2.1, hw.2.2.2.2.1.2.2.1, hw.2.2.2.2.1.2.2.2.1, hw.2.2.2.2.1.2.2.2.2.1, fun j hj => ?_, hw.2.2.2.2.1.2.2.2.2.2.2⟩, hw.2.2.2.2.2.1, hw.2.2.2.2.2.2.1, hw.2.2.2.2.2.2.2.1, hw.2.2.2.2.2.2.2.2.1, fun u h1 h2 => ?_⟩
  · by_cases q : j = i
    · rw [q, mv_up_s]
      exact hv
    · rw [mv_up_n (fun z => q z.2)]
      exact hw.2.2.2.2.1.2.2.2.2.2.1 j hj
  · have h3 : S 0 3 ≤ (u : Int) := h1
    rw [mv_up_n (fun z => by omega)]
    exact hw.2.2.2.2.2.2.2.2.2 u h1 h2
theorem sg_C_13 (hC : sg_C 0 S M) {i : Nat} {v : Int} : sg_C 0 (mv_up S 13 i v) (mv_up M 23 i v) :=
  ⟨hC.1, hC.2.1, hC.2.2.1, hC.2.2.2.1, hC.2.2.2.2.1, fun j hj => have q := hC.2.2.2.2.2.1 j hj; ⟨q.1, q.2.1, q.2.2.1, q.2.2.2.1, q.2.2.2.2.1, mv_up_sm q.2.2.2.2.2.1, q.2.2.2.2.2.2.1, sg_C_ys (M := M) (by decide) (by decide) q.2.2.2.2.2.2.2⟩, hC.2.2.2.2.2.2⟩
theorem sg_bid_13n {o i k : Nat} {v : Int} (h : o / 3 ≠ i) : sg_bid (mv_up S 13 i v) o k = sg_bid S o k := by
  have e : mv_up S 13 i v 13 (o / 3) = S 13 (o / 3) := mv_up_n (fun q => h q.2)
  show sg_if (sg_cg S (o / 3) (sg_wo S o k)) (100 * (sg_yl S (o / 3) (S 1 k) * (S 16 o + sg_mn (mv_up S 13 i v) (o / 3)) - S 11 (o / 3) - mv_up S 13 i v 13 (o / 3)) - sg_cr S (o / 3) (S 1 k) * sg_wo S o k) 0 = _
  rw [e, sg_mn_u (by decide) (by decide)]
  rfl
theorem cl_fallingWaste (hw : sg_wf S) {M0 : mv_Mem} (hC : sg_C 0 S M0) (hW : sg_W S M0) (hB : sg_Bd S M0) (hT : sg_Tk S M0) {u : Nat} {v : Int} (hu : (u : Int) < S 0 3) (hv : 0 ≤ v ∧ v ≤ 9999)
    (h : ∀ M, (∀ a i, a ≠ 42 → a ≠ 6 → a ≠ 23 → M a i = M0 a i) → sg_C 0 S M → M 6 6 = M0 6 6 → M 6 7 = 0 → F (sg_fal S u (mv_up S 13 u v)) M) :
    mv_Wp G 30 [.inr (.inr 6), .inl (u : Int), .inl v] (mh l) M0 (mv_qi (mh l) F) := by
  obtain ⟨n48, hn1, hn2⟩ := sg_n48 hw
  have hnu := sg_nu hw
  have hmk := hw.1.2.2.1
  have hw' := sg_wf_13 hw hu hv
  have c23 : M0 23 u = S 13 u := (hC.2.2.2.2.2.1 u (by omega)).2.2.2.2.2.1
  refine vw_X1_fallingWaste ?_
  rw [Int.toNat_natCast, c23]
  refine ⟨by omega, by omega, ?_⟩
  have hb := fun n hn => sg_fp_b (f := fun k x => if (sg_tk S k ≠ -1 ∧ sg_tk S k / 3 = (u : Int)) ∧ sg_tk (mv_up S 13 u v) k = -1 then x + 1 else x) (a := 0) hw (b := 1) (by omega) (fun k x hk => by split <;> omega) n hn
  have count : ∀ (M : mv_Mem), (∀ a i, a ≠ 42 → a ≠ 23 → M a i = M0 a i) → sg_C 0 (mv_up S 13 u v) M → sg_Bd (mv_up S 13 u v) M → ∀ (n p : Nat), p + n = n48 →
      mv_Run G 30 87 4749 57 [(0, .inr (.inr 6)), (1, .inl (u : Int)), (3, .inl (S 13 u)), (4, .inl (sg_fp S (fun k x => if (sg_tk S k ≠ -1 ∧ sg_tk S k / 3 = (u : Int)) ∧ sg_tk (mv_up S 13 u v) k = -1 then x + 1 else x) 0 p)), (5, .inl (p : Int))] [] (mh l) M (mv_qi (mh l) F) := by
    intro M hfr hCM hBM n
    have c2 : M 8 2 = (n48 : Int) := ((hfr 8 2 (by decide) (by decide)).trans hC.1.2.2.1).trans hn1.symm
    have hTM : sg_Tk S M := sg_Tk_fr hT (fun i => hfr 43 i (by decide) (by decide))
    induction n with
    | zero =>
      intro p hp
      refine vr_X1_fallingWaste_57 ?_
      rw [c2, if_pos (by omega), show p = n48 by omega, ← sg_fo_fp hw hn1, Int.toNat_natCast]
      refine ⟨by omega, by omega, mv_qi_i (h _ (fun a i a1 a2 a3 => ?_) ?_ ?_ ?_)⟩
      · rw [mv_up_n (fun z => a2 z.1), mv_up_n (fun z => a3 z.1)]
        exact hfr a i a1 a3
      · have h1 := sg_C_13 (i := u) (v := S 13 u) hCM
        have h2 : mv_up (mv_up S 13 u v) 13 u (S 13 u) = S := by
          funext a i
          unfold mv_up
          by_cases z : a = 13 ∧ i = u
          · rw [if_pos z, z.1, z.2]
          · rw [if_neg z, if_neg z]
        rw [h2] at h1
        exact sg_C_fr h1 (fun c d1 d2 i => mv_up_n (fun z => by omega))
      · rw [mv_up_n (fun z => by omega), mv_up_n (fun z => by omega)]
        exact hfr 6 6 (by decide) (by decide)
      · rw [mv_up_s]
    | succ n ih =>
      intro p hp
      refine vr_X1_fallingWaste_57 ?_
      obtain ⟨k, hk, rfl⟩ := sg_pl_sur hw (p := p) (by omega)
      have h1 := hb (sg_pl S k) (by omega)
      have e := sg_fp_pl (f := fun k x => if (sg_tk S k ≠ -1 ∧ sg_tk S k / 3 = (u : Int)) ∧ sg_tk (mv_up S 13 u v) k = -1 then x + 1 else x) (a := 0) hw hk
      have K := ih (sg_pl S k + 1) (by omega)
      rw [e] at K
      rw [c2, if_neg (by omega)]
      refine cl_isTakenBy hw hTM hk (fun q => ?_) (fun q => ?_)
      · rw [if_neg (by decide)]
        refine cl_takerOf (k := k) hw' hCM hBM hk ?_
        split
        · rename_i q2
          rw [if_pos ⟨q, q2⟩] at K
          exact ⟨by omega, by omega, K⟩
        · rename_i q2
          rw [if_neg (fun z => q2 z.2)] at K
          exact ⟨by omega, K⟩
      · rw [if_neg (fun z => q z.1)] at K
        rw [if_pos rfl]
        exact ⟨by omega, K⟩
  have key : ∀ (n m : Nat) (M : mv_Mem), ((m + n : Nat) : Int) = S 0 2 → (∀ a i, a ≠ 42 → a ≠ 23 → M a i = M0 a i) → sg_C 0 (mv_up S 13 u v) M → sg_W (mv_up S 13 u v) M →
      (∀ o k : Nat, (o : Int) < 3 * S 0 3 → ((o % 3 : Nat) : Int) < S 0 2 → sg_ok S k → (o / 3 ≠ u ∨ o % 3 < m) → M 42 (48 * o + sg_pl S k) = sg_bid (mv_up S 13 u v) o k) →
      mv_Run G 30 87 4749 23 [(0, .inr (.inr 6)), (1, .inl (u : Int)), (3, .inl (S 13 u)), (4, .inl (m : Int))] [] (mh l) M (mv_qi (mh l) F) := by
    intro n
    induction n with
    | zero =>
      intro m M hmn hfr hCM hWM hd
      refine vr_X1_fallingWaste_23 ?_
      have c1 : M 8 4 = S 0 2 := hCM.1.2.2.2.2
      rw [c1, if_pos (by omega)]
      exact count M hfr hCM (fun o k h1 h2 h3 => hd o k h1 h2 h3 (by
        have h2' : ((o % 3 : Nat) : Int) < S 0 2 := h2
        exact Or.inr (by omega))) n48 0 (by omega)
    | succ n ih =>
      intro m M hmn hfr hCM hWM hd
      refine vr_X1_fallingWaste_23 ?_
      have c1 : M 8 4 = S 0 2 := hCM.1.2.2.2.2
      rw [c1, if_neg (by omega)]
      refine cl_offerOf (by omega) (by omega) (cl_reckonOffer hw' hCM hWM (by omega) (show (((3 * u + m) % 3 : Nat) : Int) < S 0 2 by omega) (fun M1 f1 g1 => ⟨by omega, ih (m + 1) M1 (by omega) (fun a i a1 a2 => (f1 a i (fun z => a1 z.1)).trans (hfr a i a1 a2)) (sg_C_fr hCM (fun c d1 d2 i => f1 c i (fun z => by omega))) (sg_W_fr hWM (fun c d1 d2 _ i => f1 c i (fun z => by omega))) (fun o k h1 h2 h3 h4 => ?_)⟩))
      by_cases q : o = 3 * u + m
      · rw [q]
        exact g1 k h3
      · have hp := (sg_pl_lt hw h3).2
        have hpe : sg_pl (mv_up S 13 u v) k = sg_pl S k := rfl
        rw [f1 42 _ (fun z => by omega)]
        exact hd o k h1 h2 h3 (by omega)
  refine key (S 0 2).toNat 0 _ (by omega) (fun a i a1 a2 => mv_up_n (fun z => a2 z.1)) (sg_C_13 hC) ?_ (fun o k h1 h2 h3 h4 => ?_)
  · have : sg_W S (mv_up M0 23 u v) := sg_W_fr hW (fun c d1 d2 _ i => mv_up_n (fun z => by omega))
    exact this
  · rw [mv_up_n (fun z => by omega), sg_bid_13n (by omega)]
    exact hB o k h1 h2 h3
theorem cl_settle (hw : sg_wf S) {M0 : mv_Mem} {F : mv_Mem → Prop} (hK : sg_K S M0)
    (h : ∀ M, (∀ a i, ¬ (36 ≤ a ∧ a ≤ 43) → a ≠ 6 → M a i = M0 a i) → sg_C 0 S M → sg_Z S M → M 6 6 = 1 → M 6 7 = 1 → F M) :
    mv_Wp G 14 [.inr (.inr 6)] (mh l) M0 (mv_qv (mh l) F) := by
  obtain ⟨hC, f6, f7, k6, k0, k7⟩ := hK
  refine vw_X1_settle ?_
  split
  · rename_i q
    refine cl_reckonFoot hw hC (fun M1 f1 t1 w1 => cl_reckonRoads hw (sg_C_fr hC (fun c d1 d2 i => f1 c i (by omega) (by omega) (by omega))) (fun k d hk hd => (t1 k d hk hd).1) (fun M2 f2 t2 w2 => ⟨by decide, ?_⟩))
    have e7 : (mv_up M2 6 6 1) 6 7 = 0 := by
      rw [mv_up_n (fun z => by omega), f2 6 7 (by decide) (by decide), f1 6 7 (by decide) (by decide) (by decide)]
      exact k0 q
    rw [if_pos e7]
    have hfr : ∀ a i, ¬ (36 ≤ a ∧ a ≤ 43) → a ≠ 6 → (mv_up M2 6 6 1) a i = M0 a i := fun a i a1 a2 => by
      rw [mv_up_n (fun z => a2 z.1), f2 a i (by omega) (by omega), f1 a i (by omega) (by omega) (by omega)]
    have hC2 := sg_C_fr hC (fun c d1 d2 i => hfr c i (by omega) (by omega))
    have hW2 : sg_W S (mv_up M2 6 6 1) := by
      refine ⟨sg_tb_fr t1 (fun i => ?_) (fun i => ?_), sg_tb_fr t2 (fun i => mv_up_n (fun z => by omega)) (fun i => mv_up_n (fun z => by omega)), fun m k h1 h2 => ⟨?_, ?_⟩⟩
      · rw [mv_up_n (fun z => by omega), f2 39 i (by decide) (by decide)]
      · rw [mv_up_n (fun z => by omega), f2 41 i (by decide) (by decide)]
      · rw [mv_up_n (fun z => by omega)]
        exact w2 m k h1 h2
      · rw [mv_up_n (fun z => by omega), f2 37 _ (by decide) (by decide)]
        exact w1 m k h1 h2
    refine cl_reckonBids hw hC2 hW2 (fun M3 f3 b3 t3 => ⟨by decide, mv_qv_i (h _ (fun a i a1 a2 => ?_) ?_ ⟨?_, ?_, ?_⟩ ?_ ?_)⟩)
    · rw [mv_up_n (fun z => a2 z.1), f3 a i (by omega) (by omega)]
      exact hfr a i a1 a2
    · exact sg_C_fr hC2 (fun c d1 d2 i => by rw [mv_up_n (fun z => by omega), f3 c i (by omega) (by omega)])
    · exact sg_W_fr hW2 (fun c d1 d2 _ i => by rw [mv_up_n (fun z => by omega), f3 c i (by omega) (by omega)])
    · exact sg_Bd_fr b3 (fun i => mv_up_n (fun z => by omega))
    · exact sg_Tk_fr t3 (fun i => mv_up_n (fun z => by omega))
    · rw [mv_up_n (fun z => by omega), f3 6 6 (by decide) (by decide), mv_up_s]
    · rw [mv_up_s]
  · rename_i q
    have e6 : M0 6 6 = 1 := by omega
    have hW := k6 e6
    split
    · rename_i q2
      refine cl_reckonBids hw hC hW (fun M3 f3 b3 t3 => ⟨by decide, mv_qv_i (h _ (fun a i a1 a2 => ?_) ?_ ⟨?_, ?_, ?_⟩ ?_ ?_)⟩)
      · rw [mv_up_n (fun z => a2 z.1), f3 a i (by omega) (by omega)]
      · exact sg_C_fr hC (fun c d1 d2 i => by rw [mv_up_n (fun z => by omega), f3 c i (by omega) (by omega)])
      · exact sg_W_fr hW (fun c d1 d2 _ i => by rw [mv_up_n (fun z => by omega), f3 c i (by omega) (by omega)])
      · exact sg_Bd_fr b3 (fun i => mv_up_n (fun z => by omega))
      · exact sg_Tk_fr t3 (fun i => mv_up_n (fun z => by omega))
      · rw [mv_up_n (fun z => by omega), f3 6 6 (by decide) (by decide)]
        exact e6
      · rw [mv_up_s]
    · rename_i q2
      have e7 : M0 6 7 = 1 := by omega
      exact mv_qv_i (h M0 (fun _ _ _ _ => rfl) hC ⟨hW, (k7 e7).1, (k7 e7).2⟩ e6 e7)
theorem cl_forgetBids {F : mv_Mem → Prop} (h : F (mv_up M 6 7 0)) : mv_Wp G 13 [.inr (.inr 6)] (mh l) M (mv_qv (mh l) F) :=
  vw_X1_forgetBids ⟨by decide, mv_qv_i h⟩
theorem cl_forgetWays {F : mv_Mem → Prop} (h : F (mv_up (mv_up M 6 6 0) 6 7 0)) : mv_Wp G 12 [.inr (.inr 6)] (mh l) M (mv_qv (mh l) F) :=
  vw_X1_forgetWays ⟨by decide, by decide, mv_qv_i h⟩
end FA
