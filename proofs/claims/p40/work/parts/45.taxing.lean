/-! THE LAW: what hold answers; what falls waste when a tax is put so; the end -/
section TX
variable {W H c l : Nat} {B S S' M : mv_Mem} {G : mv_G} {post : Option mv_V → mv_SH → mv_Mem → Prop} {w : Int}
theorem lb_no (hb : lb W H c B) {r : Int} (hr : -6 ≤ r ∧ r ≤ -1) : lb W H (c + 1) (sg_no B r) := by
  obtain ⟨ho, hD, h35, hk, h4, h3⟩ := hb
  have e : ∀ a i, a ≠ 34 → sg_no B r a i = B a i := fun a i ha => mv_up_c ha
  refine ⟨sg_oo_no ho hr, ⟨(e 0 0 (by decide)).trans hD.1, (e 0 1 (by decide)).trans hD.2⟩, (e 35 0 (by decide)).trans h35, fun a i ha => ?_, fun i => (e 4 i (by decide)).trans (h4 i), fun p hp => ?_⟩
  · rw [e (40 + a) i (by omega), e a i (by omega)]
    exact hk a i ha
  · rw [e 3 _ (by decide)]
    exact h3 p hp
theorem lb_hel (hb : lb W H c B) : sg_hel B = 0 := by
  unfold sg_hel
  have e : ∀ n, sg_fo B (fun k x => x + B 4 k) 0 n = 0 := by
    intro n
    induction n with
    | zero => rfl
    | succ n ih =>
      show sg_if (sg_ok B n) (sg_fo B (fun k x => x + B 4 k) 0 n + B 4 n) (sg_fo B (fun k x => x + B 4 k) 0 n) = 0
      rw [ih, hb.2.2.2.2.1 n]
      unfold sg_if
      split <;> rfl
  exact e 48
theorem lb_392 (hc : c ≤ 90000) (hb : lb W H c B) (hw0 : 0 ≤ w ∧ w ≤ 3) (hC : sg_CC B M) {v2 v3 v4 : Int} (h4 : B 0 3 = v4)
    (hN : ∀ B' M', lb W H (c + 2) B' → B' 0 3 = v4 → sg_CC B' M' → mv_Run G 226 0 0 452 [(0, .inr (.inr 0)), (1, .inr (.inr 1)), (2, .inl v2), (3, .inl v3), (4, .inl v4), (10, .inr (.inl (sg_all B')))] [] (lh l 1) M' post) :
    mv_Run G 226 0 0 392 [(0, .inr (.inr 0)), (1, .inr (.inr 1)), (2, .inl v2), (3, .inl v3), (4, .inl v4), (5, .inl w), (9, .inl (sg_hd B w 80).2)] [] (lh l 1) M post := by
  have ho := hb.1
  have qr : ∀ S, sa_rent S (-1) = (sg_all S, S) := fun S => by
    unfold sa_rent
    rw [if_pos rfl]
  have qh : sa_hold B w = ((sg_hd B w 80).2, B) := by
    unfold sa_hold sg_un
    rw [if_neg (show ¬ w < 0 by omega), if_neg (show ¬ 3 < w by omega), if_neg (by decide)]
  have q4 : sa_hold B 4 = (-6, sg_no B (-6)) := by
    unfold sa_hold
    rw [if_pos (by decide)]
    rfl
  have q5 : sa_hold (sg_no B (-6)) (-1) = (-4, sg_no (sg_no B (-6)) (-4)) := by
    unfold sa_hold
    rw [if_pos (by decide)]
    rfl
  have hb1 := lb_no hb (r := -6) (by decide)
  have hb2 := lb_no hb1 (r := -4) (by decide)
  have q7 : sa_count (sg_no (sg_no B (-6)) (-4)) 7 = (0, sg_no (sg_no B (-6)) (-4)) := by
    rw [← lb_hel hb2]
    rfl
  refine vl_392 (lz_rent ho (by omega) hC (by decide) (qr B) (fun M1 _ hC1 => lz_hold ho (by omega) hC1 qh (fun M2 _ hC2 => ?_)))
  rw [if_pos rfl]
  refine lz_rent ho (by omega) hC2 (by decide) (qr B) (fun M3 _ hC3 => ?_)
  rw [if_pos ((mv_cmp_eq _ _).mpr rfl)]
  refine lz_hold ho (by omega) hC3 q4 (fun M4 _ hC4 => ?_)
  rw [if_pos rfl]
  refine lz_hold hb1.1 (by omega) hC4 q5 (fun M5 _ hC5 => ?_)
  rw [if_pos rfl]
  refine lz_count hb2.1 hC5 q7 (fun M6 _ hC6 => ?_)
  rw [if_pos rfl, ← sg_all_no (S := B) (r := -6), ← sg_all_no (S := sg_no B (-6)) (r := -4)]
  exact hN _ M6 hb2 (((mv_up_c (a := 34) (c := 0) (by decide)).trans (mv_up_c (a := 34) (c := 0) (by decide))).trans h4) hC6
/-- what falls waste -/
noncomputable def lb_g (B B1 : mv_Mem) (u : Int) : Nat → Int → Int := fun k x => if (sg_tk B k ≠ -1 ∧ sg_tk B k / 3 = u) ∧ sg_tk B1 k = -1 then x + 1 else x
/-- where an acre's use is told -/
noncomputable def lb_w (B : mv_Mem) (k : Nat) : Int := if sg_tk B k = -1 then -9 else sg_tk B k / 3
theorem lb_w_e (hw : sg_wf B) {k : Nat} : (lb_w B k = -9 ∧ sg_tk B k = -1) ∨ (0 ≤ lb_w B k ∧ sg_tk B k ≠ -1 ∧ lb_w B k = sg_tk B k / 3) := by
  unfold lb_w
  rcases sg_tk_i hw k with y | ⟨o, -, -, -, y, -⟩
  · exact Or.inl ⟨if_pos y.1, y.1⟩
  · refine Or.inr ?_
    rw [if_neg (by omega), y]
    omega
theorem lb_goes (hW : 2 ≤ W ∧ W ≤ 4) (hH : 1 ≤ H ∧ H ≤ 3) (hD : lo_D W H S) {p : Nat} (hp : p < W * H) : sa_goes S (lo_xy W p) 0 = (lb_w S (lo_k W p), S) := by
  unfold sa_goes lb_w
  rw [lo_ac hW hH hD hp, if_neg (by omega), if_neg (by decide), if_pos rfl, Int.toNat_natCast]
theorem lb_488 (hW : 2 ≤ W ∧ W ≤ 4) (hH : 1 ≤ H ∧ H ≤ 3) (hc : c ≤ 100000) (hb : lb W H c B) {e b : Nat} (hb1 : 88 ≤ b) (hb2 : b ≤ e + 87) {v4 v10 v12 v13 : Int}
    (hN : ∀ M, (∀ p, p < W * H → M b p = lb_w B (lo_k W p)) → sg_CC B M → mv_Run G 226 0 0 516 [(0, .inr (.inr 0)), (1, .inr (.inr 1)), (2, .inl (W : Int)), (3, .inl ((W * H : Nat) : Int)), (4, .inl v4), (10, .inr (.inl v10)), (12, .inl v12), (13, .inl v13), (14, .inr (.inr b))] [] (lh l e) M post) :
    ∀ (n p : Nat) (M : mv_Mem), p + n = W * H → (∀ q, q < p → M b q = lb_w B (lo_k W q)) → sg_CC B M → mv_Run G 226 0 0 488 [(0, .inr (.inr 0)), (1, .inr (.inr 1)), (2, .inl (W : Int)), (3, .inl ((W * H : Nat) : Int)), (4, .inl v4), (10, .inr (.inl v10)), (12, .inl v12), (13, .inl v13), (14, .inr (.inr b)), (15, .inl (p : Int))] [] (lh l e) M post := by
  have wn := lo_n hW hH
  intro n
  induction n with
  | zero =>
    intro p M hp hR hC
    have hp : p = W * H := by omega
    subst hp
    refine vl_488 ?_
    rw [if_pos (by omega)]
    exact hN M hR hC
  | succ n ih =>
    intro p M hp hR hC
    have hpn : p < W * H := by omega
    have hxy := lo_xy_R hW hH hpn
    refine vl_488 ?_
    rw [if_neg (by omega)]
    refine ll_cellOf (by omega) (by omega) (lz_goes hb.1 hc hC (show mv_R32 (lo_xy W p) by omega) (lb_goes hW hH hb.2.1 hpn) (fun M1 hx1 hC1 => ?_))
    rw [if_pos (lg_row hb1 hb2), lg_len hb1 hb2, Int.toNat_natCast]
    refine ⟨by omega, by omega, ih (p + 1) _ (by omega) (fun q hq => ?_) (sg_CC_fr hC1 (fun a i _ ha => mv_up_c (by omega)))⟩
    by_cases z : q = p
    · rw [z, mv_up_s]
    · rw [mv_up_j z, hx1 b q (Or.inr hb1)]
      exact hR q (by omega)
theorem lb_542 (hW : 2 ≤ W ∧ W ≤ 4) (hH : 1 ≤ H ∧ H ≤ 3) (hc : c ≤ 100000) (hw : sg_wf B) (hDB : lo_D W H B) {B1 : mv_Mem} (ho1 : sg_oo c B1) (hD : lo_D W H B1) {e b u : Nat} (hb1 : 88 ≤ b) (hb2 : b ≤ e + 87) {v4 v10 v15 v16 : Int}
    (hN : ∀ M, sg_CC B1 M → mv_Run G 226 0 0 588 [(0, .inr (.inr 0)), (1, .inr (.inr 1)), (2, .inl (W : Int)), (3, .inl ((W * H : Nat) : Int)), (4, .inl v4), (10, .inr (.inl v10)), (12, .inl (u : Int)), (15, .inl v15), (16, .inl v16), (17, .inl (sg_fal B (u : Int) B1))] [] (lh l e) M post) :
    ∀ (n p : Nat) (M : mv_Mem), p + n = W * H → (∀ q, q < W * H → M b q = lb_w B (lo_k W q)) → sg_CC B1 M → mv_Run G 226 0 0 542 [(0, .inr (.inr 0)), (1, .inr (.inr 1)), (2, .inl (W : Int)), (3, .inl ((W * H : Nat) : Int)), (4, .inl v4), (10, .inr (.inl v10)), (12, .inl (u : Int)), (14, .inr (.inr b)), (15, .inl v15), (16, .inl v16), (17, .inl (sg_fp B (lb_g B B1 (u : Int)) 0 p)), (18, .inl (p : Int))] [] (lh l e) M post := by
  have wn := lo_n hW hH
  have hn : ((W * H : Nat) : Int) = B 0 0 * B 0 1 := by rw [hDB.1, hDB.2]; exact wn.2.2
  intro n
  induction n with
  | zero =>
    intro p M hp hR hC
    have hp : p = W * H := by omega
    subst hp
    refine vl_542 ?_
    rw [if_pos (by omega)]
    have e : sg_fp B (lb_g B B1 (u : Int)) 0 (W * H) = sg_fal B (u : Int) B1 := (sg_fo_fp hw hn).symm
    rw [e]
    exact hN M hC
  | succ n ih =>
    intro p M hp hR hC
    have hpn : p < W * H := by omega
    have hxy := lo_xy_R hW hH hpn
    have hbd := sg_fp_b (S := B) (f := lb_g B B1 (u : Int)) (a := 0) hw (b := 1) (by decide) (fun k x hk => by unfold lb_g; split <;> omega) p (by omega)
    have hs : sg_fp B (lb_g B B1 (u : Int)) 0 (p + 1) = lb_g B B1 (u : Int) (lo_k W p) (sg_fp B (lb_g B B1 (u : Int)) 0 p) := by
      show lb_g B B1 (u : Int) (sg_in B p) (sg_fp B (lb_g B B1 (u : Int)) 0 p) = _
      rw [lo_in hDB]
    have ih1 := ih (p + 1)
    rw [hs] at ih1
    generalize sg_fp B (lb_g B B1 (u : Int)) 0 p = X at *
    have eg : lb_g B B1 (u : Int) (lo_k W p) X = if (sg_tk B (lo_k W p) ≠ -1 ∧ sg_tk B (lo_k W p) / 3 = (u : Int)) ∧ sg_tk B1 (lo_k W p) = -1 then X + 1 else X := rfl
    rw [eg] at ih1
    refine vl_542 ?_
    rw [if_neg (by omega), if_pos (lg_row hb1 hb2).2, lg_len hb1 hb2, Int.toNat_natCast, hR p hpn]
    refine ⟨by omega, ?_⟩
    have e1 := lb_w_e hw (k := lo_k W p)
    have e2 := lb_w_e ho1.1 (k := lo_k W p)
    have e0 : X + 0 = X := by omega
    by_cases q : lb_w B (lo_k W p) = (u : Int)
    · rw [if_pos q]
      refine ll_cellOf (by omega) (by omega) (lz_goes ho1 hc hC (show mv_R32 (lo_xy W p) by omega) (lb_goes hW hH hD hpn) (fun M1 hx1 hC1 => ?_))
      have hR1 : ∀ q, q < W * H → M1 b q = lb_w B (lo_k W q) := fun z hz => (hx1 b z (Or.inr hb1)).trans (hR z hz)
      by_cases q2 : 0 ≤ lb_w B1 (lo_k W p)
      · rw [if_pos q2, e0]
        rw [if_neg (fun y => by omega)] at ih1
        exact ⟨by omega, by omega, ih1 M1 (by omega) hR1 hC1⟩
      · rw [if_neg q2]
        rw [if_pos (by omega)] at ih1
        exact ⟨by omega, by omega, ih1 M1 (by omega) hR1 hC1⟩
    · rw [if_neg q, e0]
      rw [if_neg (fun y => by omega)] at ih1
      exact ⟨by omega, by omega, ih1 M (by omega) hR hC⟩
set_option maxRecDepth 100000 in
/-- a row of twelve is made -/
theorem lb_479 {e : Nat} (he : e ≤ 20) {v2 v3 v4 v10 v12 v13 : Int} (h : mv_Run G 226 0 0 485 [(0, .inr (.inr 0)), (1, .inr (.inr 1)), (2, .inl v2), (3, .inl v3), (4, .inl v4), (10, .inr (.inl v10)), (12, .inl v12), (13, .inl v13), (14, .inr (.inr (e + 88)))] [] (lh l (e + 1)) (mv_nwM (lh l e) M) post) :
    mv_Run G 226 0 0 479 [(0, .inr (.inr 0)), (1, .inr (.inr 1)), (2, .inl v2), (3, .inl v3), (4, .inl v4), (10, .inr (.inl v10)), (12, .inl v12), (13, .inl v13)] [] (lh l e) M post := by
  refine mv_run [(485, [0, 1, 2, 3, 4, 10, 12, 13, 14])] 6 ok_226 ?_
  have g : 0 ≤ (12 : Int) ∧ (12 : Int) ≤ 100000 ∧ (lh l e).1 + 1 ≤ 0 + 200 ∧ (lh l e).2.1 + (12 : Int).toNat ≤ 0 + 10000 := by
    refine ⟨by decide, by decide, ?_, ?_⟩
    · show e + 87 + 1 ≤ 0 + 200
      omega
    · show 12 * e + 4749 + 12 ≤ 0 + 10000
      omega
  show (if 0 ≤ (12 : Int) ∧ (12 : Int) ≤ 100000 ∧ (lh l e).1 + 1 ≤ 0 + 200 ∧ (lh l e).2.1 + (12 : Int).toNat ≤ 0 + 10000 then mv_Run G 226 0 0 485 [(0, .inr (.inr 0)), (1, .inr (.inr 1)), (2, .inl v2), (3, .inl v3), (4, .inl v4), (10, .inr (.inl v10)), (12, .inl v12), (13, .inl v13), (14, .inr (.inr (e + 88)))] [] (mv_nwA (lh l e) 100 12) (mv_nwM (lh l e) M) post else False)
  rw [if_pos g, lh_nw]
  exact h
theorem lb_455 (hW : 2 ≤ W ∧ W ≤ 4) (hH : 1 ≤ H ∧ H ≤ 3) (hc : c ≤ 100000) (hb : lb W H c B) {v10 : Int} {U : Nat} (hU : B 0 3 = (U : Int))
    (hN : ∀ e M, e ≤ 7 → sg_CC B M → mv_Run G 226 0 0 612 [(1, .inr (.inr 1)), (3, .inl ((W * H : Nat) : Int)), (10, .inr (.inl v10))] [] (lh l e) M post) :
    ∀ (n u : Nat) (M : mv_Mem), u + n = U → sg_CC B M → mv_Run G 226 0 0 455 [(0, .inr (.inr 0)), (1, .inr (.inr 1)), (2, .inl (W : Int)), (3, .inl ((W * H : Nat) : Int)), (4, .inl (U : Int)), (10, .inr (.inl v10)), (12, .inl (u : Int))] [] (lh l (u + 1)) M post := by
  have wn := lo_n hW hH
  have ho := hb.1
  have hwf := ho.1
  have hD := hb.2.1
  have hU6 : U ≤ 6 := by have := hwf.1.2.2.2.1; omega
  intro n
  induction n with
  | zero =>
    intro u M hu hC
    refine vl_455 ?_
    rw [if_pos (by omega)]
    exact hN (u + 1) M (by omega) hC
  | succ n ih =>
    intro u M hu hC
    refine vl_455 ?_
    rw [if_neg (by omega)]
    refine ⟨by omega, ll_cell rfl (by omega) (fun x1 => ll_pick (by omega) (fun v v0 v1 => lb_479 (by omega) (vl_485 ?_)))⟩
    have hC1 : sg_CC B (mv_nwM (lh l (u + 1)) M) := sg_CC_fr hC (fun a i _ ha => if_neg (by
      show ¬ a = u + 1 + 87 + 1
      omega))
    refine lb_488 hW hH hc hb (by omega) (by omega) (fun M2 hR2 hC2 => ?_) (W * H) 0 _ (by omega) (fun q hq => by omega) hC1
    have hu3 : (u : Int) < B 0 3 := by omega
    have un : sg_un v 0 9999 = 0 := by
      unfold sg_un
      rw [if_neg (by omega), if_neg (by omega)]
    have qf : sa_falls B (u : Int) v = (sg_fal B (u : Int) (mv_up B 13 u v), B) := by
      unfold sa_falls
      rw [if_neg (by omega), un, if_neg (by decide), Int.toNat_natCast]
    have qt : sa_tax B (u : Int) v = (B 13 u, mv_up B 13 u v) := by
      unfold sa_tax
      rw [if_neg (by omega), if_neg (by omega), un, if_neg (by decide), Int.toNat_natCast]
    have hw1 : sg_wf (mv_up B 13 u v) := sg_wf_13 hwf hu3 (by omega)
    have ho1 : sg_oo c (mv_up B 13 u v) := sg_oo_k ho hw1 (fun a i ha => mv_up_c (by omega))
    have hD1 : lo_D W H (mv_up B 13 u v) := ⟨(mv_up_c (by decide)).trans hD.1, (mv_up_c (by decide)).trans hD.2⟩
    refine vl_516 (lz_falls ho hc hC2 qf (fun M3 hx3 hC3 => lz_tax ho hc hC3 qt (fun M4 hx4 hC4 => vl_536 ?_)))
    refine lb_542 hW hH hc hwf hD ho1 hD1 (by omega) (by omega) (fun M5 hC5 => ?_) (W * H) 0 M4 (by omega) (fun q hq => (hx4 _ q (Or.inr (by omega))).trans ((hx3 _ q (Or.inr (by omega))).trans (hR2 q hq))) hC4
    have bt := hwf.2.2.2.2.1.2.2.2.2.2.1 u (by omega)
    have un2 : sg_un (B 13 u) 0 9999 = 0 := by
      unfold sg_un
      rw [if_neg (by omega), if_neg (by omega)]
    have eb : mv_up (mv_up B 13 u v) 13 u (B 13 u) = B := by
      funext a i
      unfold mv_up
      by_cases z : a = 13 ∧ i = u
      · rw [if_pos z, z.1, z.2]
      · rw [if_neg z, if_neg z]
    have qb : sa_tax (mv_up B 13 u v) (u : Int) (B 13 u) = (v, B) := by
      unfold sa_tax
      have e3 : mv_up B 13 u v 0 3 = B 0 3 := mv_up_c (by decide)
      rw [if_neg (by omega), e3, if_neg (by omega), un2, if_neg (by decide), Int.toNat_natCast, eb, mv_up_s]
    refine vl_588 (lz_tax ho1 hc hC5 qb (fun M6 hx6 hC6 => ?_))
    rw [if_pos rfl]
    exact vl_606 ⟨by omega, ih (u + 1) M6 (by omega) hC6⟩
theorem lb_612 (hW : 2 ≤ W ∧ W ≤ 4) (hH : 1 ≤ H ∧ H ≤ 3) (hc : c ≤ 90000) (hb : lb W H c B) (hC : sg_CC B M) {e : Nat}
    (hN : ∀ M, mv_Run G 226 0 0 674 [] [] (lh l e) M post) :
    mv_Run G 226 0 0 612 [(1, .inr (.inr 1)), (3, .inl ((W * H : Nat) : Int)), (10, .inr (.inl (sg_all B)))] [] (lh l e) M post := by
  have wn := lo_n hW hH
  have ho := hb.1
  have hD := hb.2.1
  have h0 : 0 < W * H := by omega
  have k0 : lo_k W 0 = 0 := by
    unfold lo_k
    rw [Nat.zero_div, Nat.zero_mod]
  have x0 : lo_xy W 0 = 0 := by rw [lo_xy_e, Nat.zero_div, Nat.zero_mod]; rfl
  have b0 := hb.2.2.2.2.2 0 h0
  rw [k0] at b0
  have qr : sa_rent B (-1) = (sg_all B, B) := by
    unfold sa_rent
    rw [if_pos rfl]
  have q1 : sa_own B 0 (-1) = (1, mv_up B 3 0 (-1)) := by
    have e := lo_own hW hH hD h0 (v := -1) (by decide)
    rw [x0, k0, if_neg (by omega)] at e
    exact e
  have hw1 : sg_wf (mv_up B 3 0 (-1)) := by
    have := (so_own ho (a := 0) (b := -1)).1
    rw [q1] at this
    exact this
  have ho1 : sg_oo c (mv_up B 3 0 (-1)) := sg_oo_k ho hw1 (fun a i ha => mv_up_c (by omega))
  have hD1 : lo_D W H (mv_up B 3 0 (-1)) := ⟨(mv_up_c (by decide)).trans hD.1, (mv_up_c (by decide)).trans hD.2⟩
  have q2 : sa_acre (mv_up B 3 0 (-1)) 0 3 = (-9, mv_up B 3 0 (-1)) := by
    have e := lo_acre3 hW hH hD1 h0
    rw [x0, k0, mv_up_s] at e
    exact e
  have ac0 : sg_ac (mv_up B 3 0 (-1)) 0 = 0 := by
    have e := lo_ac hW hH hD1 h0
    rw [x0, k0] at e
    exact e
  have q3 : sa_own (mv_up B 3 0 (-1)) 0 4 = (-6, sg_no (mv_up B 3 0 (-1)) (-6)) := by
    unfold sa_own
    rw [ac0, if_neg (by decide), if_pos (by decide)]
    rfl
  have q4 : sa_own (sg_no (mv_up B 3 0 (-1)) (-6)) 99 0 = (-1, sg_no (sg_no (mv_up B 3 0 (-1)) (-6)) (-1)) := by
    have e : sg_ac (sg_no (mv_up B 3 0 (-1)) (-6)) 99 = -1 := by
      unfold sg_ac
      have e0 : sg_no (mv_up B 3 0 (-1)) (-6) 0 0 = (W : Int) := (mv_up_c (a := 34) (c := 0) (by decide)).trans hD1.1
      rw [e0, if_neg (by omega)]
    unfold sa_own
    rw [e, if_pos (by decide)]
  refine vl_612 (lz_on ho (by omega) hC (lb_on hb (fun _ _ _ => rfl)) (fun M1 _ hC1 => ?_))
  rw [if_pos wn.2.2.symm]
  refine lz_rent ho (by omega) hC1 (by decide) qr (fun M2 _ hC2 => ?_)
  rw [if_pos ((mv_cmp_eq _ _).mpr rfl)]
  refine lz_own ho (by omega) hC2 (by decide) q1 (fun M3 _ hC3 => ?_)
  rw [if_pos rfl]
  refine lz_acre ho1 (by omega) hC3 (by decide) q2 (fun M4 _ hC4 => ?_)
  rw [if_pos rfl]
  refine lz_own ho1 (by omega) hC4 (by decide) q3 (fun M5 _ hC5 => ?_)
  rw [if_pos rfl]
  refine lz_own (sg_oo_no ho1 (by decide)) (by omega) hC5 (by decide) q4 (fun M6 _ _ => ?_)
  rw [if_pos rfl]
  exact hN M6
end TX
