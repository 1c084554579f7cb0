/-! THE LAW: holding back one acre after another, a round, the rents, on from the image -/
section HO
variable {W H c l : Nat} {B S S' M : mv_Mem} {G : mv_G} {post : Option mv_V → mv_SH → mv_Mem → Prop} {w : Int}
theorem lb_on (hb : lb W H c B) (hs : ∀ a i, 24 ≤ a → S a i = B a i) : sa_on S = (((W : Int) * (H : Int)), B) := by
  obtain ⟨ho, hD, h35, hk, -, -⟩ := hb
  unfold sa_on
  rw [hs 35 0 (by decide), h35, if_neg (by decide), hs 40 0 (by decide), hs 40 1 (by decide)]
  have e0 : B 40 0 = (W : Int) := (hk 0 0 (by decide)).trans hD.1
  have e1 : B 40 1 = (H : Int) := (hk 0 1 (by decide)).trans hD.2
  rw [e0, e1]
  refine Prod.ext rfl (funext fun a => funext fun i => ?_)
  show (if a ≤ 23 then S (40 + a) i else S a i) = B a i
  by_cases h : a ≤ 23
  · rw [if_pos h, hs _ i (by omega)]
    exact hk a i h
  · rw [if_neg h]
    exact hs a i (by omega)
/-- a world that is the base but for prices and acres that are held -/
def lb_S (B S : mv_Mem) : Prop := ∀ a i, a ≠ 4 → a ≠ 16 → S a i = B a i
/-- the rents of an owner at an acre, behind what came before -/
noncomputable def lb_f (S : mv_Mem) (w : Int) : Nat → Int → Int := fun k x => if S 3 k = w then x + sg_rt S k else x
theorem lb_f_b (hw : sg_wf S) {k : Nat} {x : Int} (hk : sg_ok S k) : x ≤ lb_f S w k x ∧ lb_f S w k x ≤ x + 160000000 := by
  unfold lb_f
  have := sg_rt_b hw hk
  split <;> omega
theorem lb_301 (hW : 2 ≤ W ∧ W ≤ 4) (hH : 1 ≤ H ∧ H ≤ 3) (hc : c ≤ 100000) (ho : sg_oo c S) (hD : lo_D W H S) (hS3 : ∀ i, S 3 i = B 3 i) {v4 v7 v9 v10 : Int}
    (hN : ∀ M, lb_o W H B M → sg_CC S M → mv_Run G 226 0 0 342 [(0, .inr (.inr 0)), (1, .inr (.inr 1)), (2, .inl (W : Int)), (3, .inl ((W * H : Nat) : Int)), (4, .inl v4), (5, .inl w), (6, .inr (.inr 88)), (7, .inr (.inl v7)), (9, .inl v9), (10, .inl v10), (11, .inr (.inl (sg_own S w)))] [] (lh l 1) M post) :
    ∀ (n p : Nat) (M : mv_Mem), p + n = W * H → lb_o W H B M → sg_CC S M → mv_Run G 226 0 0 301 [(0, .inr (.inr 0)), (1, .inr (.inr 1)), (2, .inl (W : Int)), (3, .inl ((W * H : Nat) : Int)), (4, .inl v4), (5, .inl w), (6, .inr (.inr 88)), (7, .inr (.inl v7)), (9, .inl v9), (10, .inl v10), (11, .inr (.inl (sg_fp S (lb_f S w) 0 p))), (13, .inl (p : Int))] [] (lh l 1) M post := by
  have wn := lo_n hW hH
  have hw := ho.1
  have hn : ((W * H : Nat) : Int) = S 0 0 * S 0 1 := by rw [hD.1, hD.2]; exact wn.2.2
  intro n
  induction n with
  | zero =>
    intro p M hp hR hC
    have hp : p = W * H := by omega
    subst hp
    refine vl_301 ?_
    rw [if_pos (by omega)]
    have e : sg_fp S (lb_f S w) 0 (W * H) = sg_own S w := (sg_fo_fp hw hn).symm
    rw [e]
    exact hN M hR hC
  | succ n ih =>
    intro p M hp hR hC
    have hpn : p < W * H := by omega
    have hxy := lo_xy_R hW hH hpn
    have hb := sg_fp_b (S := S) (f := lb_f S w) (a := 0) hw (b := 160000000) (by decide) (fun k x hk => lb_f_b hw hk) (p + 1) (by omega)
    have hs : sg_fp S (lb_f S w) 0 (p + 1) = lb_f S w (lo_k W p) (sg_fp S (lb_f S w) 0 p) := by
      show lb_f S w (sg_in S p) (sg_fp S (lb_f S w) 0 p) = _
      rw [lo_in hD]
    have ih1 := ih (p + 1)
    rw [hs] at hb ih1
    unfold lb_f at hb ih1
    refine vl_301 ?_
    rw [if_neg (by omega), if_pos (lg_row (by omega) (by omega)).2, lg_len (by omega) (by omega), Int.toNat_natCast, hR p hpn, ← hS3]
    refine ⟨by omega, ?_⟩
    by_cases q : S 3 (lo_k W p) = w
    · rw [if_pos q] at hb ih1 ⊢
      have q1 : sa_rent S (lo_xy W p) = (sg_rt S (lo_k W p), S) := by
        unfold sa_rent
        rw [if_neg (by omega), lo_ac hW hH hD hpn, if_neg (by omega), Int.toNat_natCast]
      refine ll_cellOf (by omega) (by omega) (lz_rent ho hc hC (show mv_R32 (lo_xy W p) by omega) q1 (fun M' hx hC' => ⟨by unfold lb_f; omega, by omega, ?_⟩))
      exact ih1 M' (by omega) (fun z hz => (hx 88 z (Or.inr (by omega))).trans (hR z hz)) hC'
    · rw [if_neg q] at hb ih1 ⊢
      have e0 : sg_fp S (lb_f S w) 0 p + 0 = sg_fp S (lb_f S w) 0 p := by omega
      rw [e0]
      exact ⟨by unfold lb_f; omega, by omega, ih1 M (by omega) hR hC⟩
theorem lb_rn (S : mv_Mem) : (sa_rounds S 1).2 = (sg_rd S).1 := by
  unfold sa_rounds
  rw [if_neg (by decide)]
  show (sg_rn S 1).1 = (sg_rd S).1
  show (if (sg_rd S).2 = 0 then ((sg_rd S).1, 1) else ((sg_rd S).1, (0 : Int) + 1)).1 = (sg_rd S).1
  split <;> rfl
/-- one acre (or none) is held: the round, the rents, on -/
theorem lb_289 (hW : 2 ≤ W ∧ W ≤ 4) (hH : 1 ≤ H ∧ H ≤ 3) (hc : c ≤ 100000) (hb : lb W H c B) (hw : sg_wf S) (hS : lb_S B S) (hR : lb_o W H B M) (hC : sg_CC S M) {v4 v7 v9 v10 : Int}
    (hN : ∀ M, lb_o W H B M → sg_CC B M → mv_Run G 226 0 0 352 [(0, .inr (.inr 0)), (1, .inr (.inr 1)), (2, .inl (W : Int)), (3, .inl ((W * H : Nat) : Int)), (4, .inl v4), (5, .inl w), (6, .inr (.inr 88)), (7, .inr (.inl v7)), (9, .inl v9), (10, .inl v10), (11, .inr (.inl (sg_rb S w)))] [] (lh l 1) M post) :
    mv_Run G 226 0 0 289 [(0, .inr (.inr 0)), (1, .inr (.inr 1)), (2, .inl (W : Int)), (3, .inl ((W * H : Nat) : Int)), (4, .inl v4), (5, .inl w), (6, .inr (.inr 88)), (7, .inr (.inl v7)), (9, .inl v9), (10, .inl v10)] [] (lh l 1) M post := by
  have wn := lo_n hW hH
  have ho : sg_oo c S := sg_oo_k hb.1 hw (fun a i ha => hS a i (by omega) (by omega))
  have hpq : sg_pq S (sg_rd S).1 := sg_ro_pq S _
  have hwr : sg_wf (sg_rd S).1 := sg_rd_wf hw
  have hor : sg_oo c (sg_rd S).1 := sg_oo_k ho hwr (fun a i ha => hpq a i (by omega))
  have hD : lo_D W H (sg_rd S).1 := ⟨(hpq 0 0 (by decide)).trans ((hS 0 0 (by decide) (by decide)).trans hb.2.1.1), (hpq 0 1 (by decide)).trans ((hS 0 1 (by decide) (by decide)).trans hb.2.1.2)⟩
  have q1 : sa_rounds S 1 = ((sa_rounds S 1).1, (sg_rd S).1) := by rw [← lb_rn]
  refine vl_289 (lz_rounds ho hc hC q1 (fun M1 hx1 hC1 => ?_))
  refine lb_301 (B := B) hW hH hc hor hD (fun i => (hpq 3 i (by decide)).trans (hS 3 i (by decide) (by decide))) (fun M2 hR2 hC2 => ?_) (W * H) 0 M1 (by omega) (fun z hz => (hx1 88 z (Or.inr (by omega))).trans (hR z hz)) hC1
  refine vl_342 (lz_on hor hc hC2 (lb_on hb (fun a i ha => (hpq a i (by omega)).trans (hS a i (by omega) (by omega)))) (fun M3 hx3 hC3 => ?_))
  rw [if_pos wn.2.2.symm]
  exact hN M3 (fun z hz => (hx3 88 z (Or.inr (by omega))).trans (hR2 z hz)) hC3
/-- the loop over the acres -/
theorem lb_209 (hW : 2 ≤ W ∧ W ≤ 4) (hH : 1 ≤ H ∧ H ≤ 3) (hc : c ≤ 100000) (hb : lb W H c B) (hw0 : 0 ≤ w ∧ w ≤ 3) {v4 : Int}
    (hN : ∀ M, sg_CC B M → mv_Run G 226 0 0 392 [(0, .inr (.inr 0)), (1, .inr (.inr 1)), (2, .inl (W : Int)), (3, .inl ((W * H : Nat) : Int)), (4, .inl v4), (5, .inl w), (9, .inl (sg_hd B w 80).2)] [] (lh l 1) M post) :
    ∀ (n t : Nat) (M : mv_Mem), t + n = 80 → lb_o W H B M → sg_CC B M → mv_Run G 226 0 0 209 [(0, .inr (.inr 0)), (1, .inr (.inr 1)), (2, .inl (W : Int)), (3, .inl ((W * H : Nat) : Int)), (4, .inl v4), (5, .inl w), (6, .inr (.inr 88)), (7, .inr (.inl (sg_hd B w t).1)), (9, .inl (sg_hd B w t).2), (10, .inl (t : Int))] [] (lh l 1) M post := by
  have ho := hb.1
  have hwf := ho.1
  have hD := hb.2.1
  intro n
  induction n with
  | zero =>
    intro t M ht hR hC
    have ht : t = 80 := by omega
    subst ht
    refine vl_209 ?_
    rw [if_pos (by omega)]
    exact hN M hC
  | succ n ih =>
    intro t M ht hR hC
    have fwd : ∀ {M1 M2 : mv_Mem}, lb_o W H B M1 → sg_X M1 M2 → lb_o W H B M2 := fun h hx z hz => (hx 88 z (Or.inr (by omega))).trans (h z hz)
    have skip : ∀ M', lb_o W H B M' → sg_CC B M' → sg_hd B w (t + 1) = sg_hd B w t → mv_Run G 226 0 0 386 [(0, .inr (.inr 0)), (1, .inr (.inr 1)), (2, .inl (W : Int)), (3, .inl ((W * H : Nat) : Int)), (4, .inl v4), (5, .inl w), (6, .inr (.inr 88)), (7, .inr (.inl (sg_hd B w t).1)), (9, .inl (sg_hd B w t).2), (10, .inl (t : Int))] [] (lh l 1) M' post := by
      intro M' hR' hC' he
      rw [← he]
      exact vl_386 ⟨by omega, ih (t + 1) M' (by omega) hR' hC'⟩
    have q1 : sa_count B 1 = ((H : Int), B) := by
      show (B 0 1, B) = _
      rw [hD.2]
    have ea : sg_ac B (t : Int) = if (t : Int) / 10 < (W : Int) ∧ (t : Int) % 10 < (H : Int) then 8 * ((t : Int) % 10) + (t : Int) / 10 else -1 := by
      unfold sg_ac
      rw [hD.1, hD.2]
      by_cases z : (t : Int) / 10 < (W : Int) ∧ (t : Int) % 10 < (H : Int)
      · rw [if_pos ⟨by omega, z⟩, if_pos z]
      · rw [if_neg (fun y => z y.2), if_neg z]
    refine vl_209 ?_
    rw [if_neg (by omega), if_neg (by omega)]
    refine ⟨by decide, lz_count ho hC q1 (fun M1 hx1 hC1 => ?_)⟩
    have hR1 := fwd hR hx1
    rw [sg_tm (by omega), sg_td (by omega)]
    by_cases z1 : (H : Int) ≤ (t : Int) % 10
    · rw [if_pos z1]
      exact skip M1 hR1 hC1 (sg_hd_no (by rw [ea, if_neg (by omega)]))
    rw [if_neg z1]
    refine ⟨⟨by decide, by omega⟩, ?_⟩
    by_cases z2 : (t : Int) / 10 < (W : Int)
    · rw [if_pos z2]
      rw [if_pos ⟨z2, by omega⟩] at ea
      obtain ⟨k, ek⟩ := sg_nat (show 0 ≤ sg_ac B (t : Int) by omega)
      have hd1 : sg_hd B w (t + 1) = if 0 ≤ sg_ac B t ∧ B 3 (sg_ac B t).toNat = w ∧ sg_tk B (sg_ac B t).toNat ≠ -1 ∧ (sg_hd B w t).1 < sg_rb (mv_up B 4 (sg_ac B t).toNat 1) w then (sg_rb (mv_up B 4 (sg_ac B t).toNat 1) w, (t : Int)) else sg_hd B w t := rfl
      rw [ek, Int.toNat_natCast] at hd1
      have q2 : sa_acre B (t : Int) 3 = ((if B 3 k < 0 then -9 else B 3 k), B) := by
        unfold sa_acre
        rw [ek, if_neg (by omega), if_neg (by decide), if_neg (by decide), if_neg (by decide), if_pos rfl, Int.toNat_natCast]
      refine vl_246 ?_
      rw [if_neg (by omega)]
      refine lz_acre ho hc hC1 (show mv_R32 (t : Int) by omega) q2 (fun M2 hx2 hC2 => ?_)
      have hR2 := fwd hR1 hx2
      by_cases z3 : B 3 k = w
      · have e3 : (if B 3 k < 0 then -9 else B 3 k) = w := by rw [if_neg (by omega)]; exact z3
        rw [if_pos e3]
        have q3 : sa_goes B (t : Int) 0 = ((if sg_tk B k = -1 then -9 else sg_tk B k / 3), B) := by
          unfold sa_goes
          rw [ek, if_neg (by omega), if_neg (by decide), if_pos rfl, Int.toNat_natCast]
        refine lz_goes ho hc hC2 (show mv_R32 (t : Int) by omega) q3 (fun M3 hx3 hC3 => ?_)
        have hR3 := fwd hR2 hx3
        by_cases z4 : sg_tk B k = -1
        · have e4 : ¬ 0 ≤ (if sg_tk B k = -1 then -9 else sg_tk B k / 3) := by rw [if_pos z4]; omega
          rw [if_neg e4]
          exact skip M3 hR3 hC3 (by rw [hd1]; exact if_neg (fun y => y.2.2.1 z4))
        · have e4 : 0 ≤ (if sg_tk B k = -1 then -9 else sg_tk B k / 3) := by
            rw [if_neg z4]
            rcases sg_tk_i hwf k with y | ⟨o, -, -, -, y, -⟩
            · exact absurd y.1 z4
            · rw [y]; omega
          rw [if_pos e4]
          have q4 : sa_held B (t : Int) 1 = (1, mv_up B 4 k 1) := by
            unfold sa_held
            rw [ek, if_neg (by omega), if_neg (show ¬ (1 : Int) = 0 by decide), Int.toNat_natCast, if_neg (by rw [hb.2.2.2.2.1 k]; decide)]
          refine vl_276 ?_
          rw [if_neg (by omega)]
          refine lz_held ho hc hC3 (show mv_R32 (t : Int) by omega) q4 (fun M4 hx4 hC4 => ?_)
          refine lb_289 hW hH hc hb (sg_wf_4 hwf (by omega)) (fun a i h4 _ => mv_up_c h4) (fwd hR3 hx4) hC4 (fun M5 hR5 hC5 => ?_)
          refine vl_352 ?_
          rw [if_neg (by omega)]
          by_cases z5 : (sg_hd B w t).1 < sg_rb (mv_up B 4 k 1) w
          · rw [if_pos ((mv_cmp_gt _ _).mpr z5)]
            refine vl_368 ?_
            rw [if_pos (by omega)]
            refine vl_386 ⟨by omega, ?_⟩
            have hd2 : sg_hd B w (t + 1) = (sg_rb (mv_up B 4 k 1) w, (t : Int)) := by
              rw [hd1]; exact if_pos ⟨by omega, z3, z4, z5⟩
            have := ih (t + 1) M5 (by omega) hR5 hC5
            rw [hd2] at this
            exact this
          · rw [if_neg (fun y => z5 ((mv_cmp_gt _ _).mp y))]
            exact skip M5 hR5 hC5 (by rw [hd1]; exact if_neg (fun y => z5 y.2.2.2))
      · have e3 : ¬ (if B 3 k < 0 then -9 else B 3 k) = w := by
          intro y
          by_cases y2 : B 3 k < 0
          · rw [if_pos y2] at y; omega
          · rw [if_neg y2] at y; exact z3 y
        rw [if_neg e3]
        exact skip M2 hR2 hC2 (by rw [hd1]; exact if_neg (fun y => z3 y.2.1))
    · rw [if_neg z2]
      exact skip M1 hR1 hC1 (sg_hd_no (by rw [ea, if_neg (by omega)]))
theorem lb_197 (hW : 2 ≤ W ∧ W ≤ 4) (hH : 1 ≤ H ∧ H ≤ 3) (hc : c ≤ 100000) (hb : lb W H c B) (hw0 : 0 ≤ w ∧ w ≤ 3) (hR : lb_o W H B M) (hC : sg_CC B M) {v4 : Int}
    (hN : ∀ M, sg_CC B M → mv_Run G 226 0 0 392 [(0, .inr (.inr 0)), (1, .inr (.inr 1)), (2, .inl (W : Int)), (3, .inl ((W * H : Nat) : Int)), (4, .inl v4), (5, .inl w), (9, .inl (sg_hd B w 80).2)] [] (lh l 1) M post) :
    mv_Run G 226 0 0 197 [(0, .inr (.inr 0)), (1, .inr (.inr 1)), (2, .inl (W : Int)), (3, .inl ((W * H : Nat) : Int)), (4, .inl v4), (5, .inl w), (6, .inr (.inr 88))] [] (lh l 1) M post := by
  refine vl_197 (vl_209 ?_)
  rw [if_neg (by decide), if_pos (by decide)]
  refine vl_246 ?_
  rw [if_pos (by decide)]
  refine vl_276 ?_
  rw [if_pos (by decide)]
  refine lb_289 hW hH hc hb hb.1.1 (fun a i _ _ => rfl) hR hC (fun M1 hR1 hC1 => ?_)
  refine vl_352 ?_
  rw [if_pos (by decide)]
  refine vl_368 ?_
  rw [if_neg (by decide)]
  exact vl_386 ⟨by decide, lb_209 hW hH hc hb hw0 hN 80 0 M1 rfl hR1 hC1⟩
end HO
