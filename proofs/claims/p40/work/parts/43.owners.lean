/-! THE LAW: owners, a piece, the image -/
theorem lg_row {l e b : Nat} (h1 : 88 ≤ b) (h2 : b ≤ e + 87) : 1 ≤ b ∧ b ≤ (lh l e).1 ∧ (lh l e).2.2.1 b = 100 := by
  refine ⟨by omega, h2, ?_⟩
  show lh_t e b = 100
  unfold lh_t
  rw [if_neg (by omega), if_pos h2]
theorem lg_len {l e b : Nat} (h1 : 88 ≤ b) (h2 : b ≤ e + 87) : (lh l e).2.2.2.1 b = 12 := by
  show lh_l l e b = 12
  unfold lh_l
  rw [if_neg (by omega), if_pos h2]
/-- the base: behind the image -/
def lb (W H c : Nat) (B : mv_Mem) : Prop := sg_oo c B ∧ lo_D W H B ∧ B 35 0 = 1 ∧ (∀ a i, a ≤ 23 → B (40 + a) i = B a i) ∧ (∀ i, B 4 i = 0) ∧ ∀ p, p < W * H → 0 ≤ B 3 (lo_k W p) ∧ B 3 (lo_k W p) ≤ 3
/-- the law's row of the owners -/
def lb_o (W H : Nat) (B M : mv_Mem) : Prop := ∀ p, p < W * H → M 88 p = B 3 (lo_k W p)
/-- while the owners are told: p places are done -/
def lo_A (W H c p : Nat) (S M : mv_Mem) : Prop := sg_oo c S ∧ lo_D W H S ∧ (∀ i, S 4 i = 0) ∧ (∀ q, q < p → (0 ≤ S 3 (lo_k W q) ∧ S 3 (lo_k W q) ≤ 3) ∧ M 88 q = S 3 (lo_k W q)) ∧ (∀ q, p ≤ q → q < W * H → S 3 (lo_k W q) = -1) ∧ sg_CC S M
section OW
variable {W H c e l : Nat} {S S' M : mv_Mem} {G : mv_G} {post : Option mv_V → mv_SH → mv_Mem → Prop}
theorem lo_own (hW : 2 ≤ W ∧ W ≤ 4) (hH : 1 ≤ H ∧ H ≤ 3) (hD : lo_D W H S) {p : Nat} (hp : p < W * H) {v : Int} (hv : -1 ≤ v ∧ v ≤ 3) : sa_own S (lo_xy W p) v = if S 3 (lo_k W p) = v then (0, S) else (1, mv_up S 3 (lo_k W p) v) := by
  unfold sa_own sg_un
  rw [lo_ac hW hH hD hp, if_neg (by omega), if_neg (show ¬ v < -1 by omega), if_neg (show ¬ 3 < v by omega), if_neg (by decide), Int.toNat_natCast]
theorem lo_acre3 (hW : 2 ≤ W ∧ W ≤ 4) (hH : 1 ≤ H ∧ H ≤ 3) (hD : lo_D W H S) {p : Nat} (hp : p < W * H) : sa_acre S (lo_xy W p) 3 = ((if S 3 (lo_k W p) < 0 then -9 else S 3 (lo_k W p)), S) := by
  unfold sa_acre
  rw [lo_ac hW hH hD hp, if_neg (by omega), if_neg (by decide), if_neg (by decide), if_neg (by decide), if_pos rfl, Int.toNat_natCast]
theorem lo_50 (hW : 2 ≤ W ∧ W ≤ 4) (hH : 1 ≤ H ∧ H ≤ 3) (hc : c ≤ 100000) {v4 v5 : Int} (hN : ∀ S M, S 0 3 = v4 → lo_A W H c (W * H) S M → mv_Run G 226 0 0 140 [(0, .inr (.inr 0)), (1, .inr (.inr 1)), (2, .inl (W : Int)), (3, .inl ((W * H : Nat) : Int)), (4, .inl v4), (5, .inl v5), (6, .inr (.inr 88))] [] (lh l 1) M post) :
    ∀ (n p : Nat) (S M : mv_Mem), p + n = W * H → S 0 3 = v4 → lo_A W H c p S M → mv_Run G 226 0 0 50 [(0, .inr (.inr 0)), (1, .inr (.inr 1)), (2, .inl (W : Int)), (3, .inl ((W * H : Nat) : Int)), (4, .inl v4), (5, .inl v5), (6, .inr (.inr 88)), (7, .inl (p : Int))] [] (lh l 1) M post := by
  have wn := lo_n hW hH
  intro n
  induction n with
  | zero =>
    intro p S M hp h4 hA
    have hp : p = W * H := by omega
    subst hp
    refine vl_50 ?_
    rw [if_pos (by omega)]
    exact hN S M h4 hA
  | succ n ih =>
    intro p S M hp h4 hA
    obtain ⟨ho, hD, z4, hd, hu, hC⟩ := hA
    have hpn : p < W * H := by omega
    have hxy := lo_xy_R hW hH hpn
    refine vl_50 ?_
    rw [if_neg (by omega)]
    refine ll_cell rfl (by omega) (fun x1 => ⟨by omega, ll_pick (by omega) (fun v v0 v4' => ?_)⟩)
    rw [if_pos (lg_row (by omega) (by omega)), lg_len (by omega) (by omega), Int.toNat_natCast]
    refine ⟨by omega, ll_cellOf (by omega) (by omega) ?_⟩
    rw [if_pos (lg_row (by omega) (by omega)).2, mv_up_s]
    refine ⟨by omega, ?_⟩
    have hC1 : sg_CC S (mv_up M 88 p v) := sg_CC_fr hC (fun a i _ ha => mv_up_c (by omega))
    have q1 : sa_own S (lo_xy W p) v = (1, mv_up S 3 (lo_k W p) v) := by
      rw [lo_own hW hH hD hpn (by omega), if_neg (by rw [hu p (by omega) hpn]; omega)]
    have hw1 : sg_wf (mv_up S 3 (lo_k W p) v) := by
      have := (so_own ho (a := lo_xy W p) (b := v)).1
      rw [q1] at this
      exact this
    have ho1 : sg_oo c (mv_up S 3 (lo_k W p) v) := sg_oo_k ho hw1 (fun a i ha => mv_up_c (by omega))
    have hD1 : lo_D W H (mv_up S 3 (lo_k W p) v) := ⟨(mv_up_c (by decide)).trans hD.1, (mv_up_c (by decide)).trans hD.2⟩
    refine lz_own ho hc hC1 (show mv_R32 (lo_xy W p) by omega) q1 (fun M2 x2 hC2 => ?_)
    rw [if_pos rfl]
    refine ll_cellOf (by omega) (by omega) ?_
    have e2 : M2 88 p = v := (x2 88 p (Or.inr (by omega))).trans mv_up_s
    rw [if_pos (lg_row (by omega) (by omega)).2, e2]
    refine ⟨by omega, ?_⟩
    have q2 : sa_own (mv_up S 3 (lo_k W p) v) (lo_xy W p) v = (0, mv_up S 3 (lo_k W p) v) := by
      rw [lo_own hW hH hD1 hpn (by omega), if_pos mv_up_s]
    refine lz_own ho1 hc hC2 (show mv_R32 (lo_xy W p) by omega) q2 (fun M3 x3 hC3 => ?_)
    rw [if_pos rfl]
    refine ll_cellOf (by omega) (by omega) ?_
    have q3 : sa_acre (mv_up S 3 (lo_k W p) v) (lo_xy W p) 3 = (v, mv_up S 3 (lo_k W p) v) := by
      rw [lo_acre3 hW hH hD1 hpn, mv_up_s, if_neg (by omega)]
    refine lz_acre ho1 hc hC3 (show mv_R32 (lo_xy W p) by omega) q3 (fun M4 x4 hC4 => ?_)
    have e4 : ∀ i, M4 88 i = mv_up M 88 p v 88 i := fun i => (x4 88 i (Or.inr (by omega))).trans ((x3 88 i (Or.inr (by omega))).trans (x2 88 i (Or.inr (by omega))))
    rw [if_pos (lg_row (by omega) (by omega)).2, e4, mv_up_s, if_pos rfl]
    refine ⟨by omega, by omega, ih (p + 1) (mv_up S 3 (lo_k W p) v) M4 (by omega) ((mv_up_c (by decide)).trans h4) ⟨ho1, hD1, fun i => (mv_up_c (by decide)).trans (z4 i), fun q hq => ?_, fun q hq hqn => ?_, hC4⟩⟩
    · by_cases z : q = p
      · rw [e4, z, mv_up_s, mv_up_s]
        exact ⟨by omega, rfl⟩
      · rw [e4, mv_up_j z, mv_up_j (fun y => z (lo_inj hW y))]
        exact hd q (by omega)
    · rw [mv_up_j (fun y => by have := lo_inj hW y; omega)]
      exact hu q (by omega) hqn
theorem lo_187 (hW : 2 ≤ W ∧ W ≤ 4) (hH : 1 ≤ H ∧ H ≤ 3) (hc : c ≤ 100000) {v4 v5 : Int} (h4 : S 0 3 = v4) (hA : lo_A W H c (W * H) S M)
    (hN : ∀ B M, lb W H (c + 1) B → B 0 3 = v4 → lb_o W H B M → sg_CC B M → mv_Run G 226 0 0 197 [(0, .inr (.inr 0)), (1, .inr (.inr 1)), (2, .inl (W : Int)), (3, .inl ((W * H : Nat) : Int)), (4, .inl v4), (5, .inl v5), (6, .inr (.inr 88))] [] (lh l 1) M post) :
    mv_Run G 226 0 0 187 [(0, .inr (.inr 0)), (1, .inr (.inr 1)), (2, .inl (W : Int)), (3, .inl ((W * H : Nat) : Int)), (4, .inl v4), (5, .inl v5), (6, .inr (.inr 88))] [] (lh l 1) M post := by
  obtain ⟨ho, hD, z4, hd, hu, hC⟩ := hA
  have wn := lo_n hW hH
  have q : sa_image S = (((W * H : Nat) : Int), (sa_image S).2) := by
    unfold sa_image
    rw [hD.1, hD.2, wn.2.2]
  refine vl_187 (lz_image ho hC q (fun M' hx hC' => ?_))
  rw [if_pos rfl]
  have low : ∀ a i, a ≤ 23 → (sa_image S).2 a i = S a i := fun a i ha => by
    show (if a = 35 ∧ i = 0 then 1 else if 40 ≤ a ∧ a ≤ 63 then S (a - 40) i else S a i) = S a i
    rw [if_neg (by omega), if_neg (by omega)]
  refine hN _ M' ⟨so_image ho, ⟨(low 0 0 (by decide)).trans hD.1, (low 0 1 (by decide)).trans hD.2⟩, rfl, fun a i ha => ?_, fun i => (low 4 i (by decide)).trans (z4 i), fun p hp => ?_⟩ ((low 0 3 (by decide)).trans h4) (fun p hp => ?_) hC'
  · rw [low a i ha]
    show (if 40 + a = 35 ∧ i = 0 then 1 else if 40 ≤ 40 + a ∧ 40 + a ≤ 63 then S (40 + a - 40) i else S (40 + a) i) = S a i
    rw [if_neg (by omega), if_pos (by omega), show 40 + a - 40 = a by omega]
  · rw [low 3 _ (by decide)]
    exact (hd p hp).1
  · rw [low 3 _ (by decide), hx 88 p (Or.inr (by omega))]
    exact (hd p hp).2
theorem lo_140 (hW : 2 ≤ W ∧ W ≤ 4) (hH : 1 ≤ H ∧ H ≤ 3) (hc : c ≤ 90000) {v4 v5 : Int} (h4 : S 0 3 = v4) (hA : lo_A W H c (W * H) S M)
    (hN : ∀ B M, lb W H (c + 2) B → B 0 3 = v4 → lb_o W H B M → sg_CC B M → mv_Run G 226 0 0 197 [(0, .inr (.inr 0)), (1, .inr (.inr 1)), (2, .inl (W : Int)), (3, .inl ((W * H : Nat) : Int)), (4, .inl v4), (5, .inl v5), (6, .inr (.inr 88))] [] (lh l 1) M post) :
    mv_Run G 226 0 0 140 [(0, .inr (.inr 0)), (1, .inr (.inr 1)), (2, .inl (W : Int)), (3, .inl ((W * H : Nat) : Int)), (4, .inl v4), (5, .inl v5), (6, .inr (.inr 88))] [] (lh l 1) M post := by
  have hA' := hA
  obtain ⟨ho, hD, z4, hd, hu, hC⟩ := hA'
  refine vl_140 (ll_cell rfl (by omega) (fun x1 => ll_pick (by omega) (fun x2 _ _ => ?_)))
  by_cases y : x2 = 0
  · rw [if_pos y]
    refine ll_cell rfl (by omega) (fun x3 => ll_pick (by omega) (fun x4 _ _ => ll_cell rfl (by omega) (fun x5 => ll_pick (by omega) (fun x6 _ _ => lz_piece (x := (sa_piece S 0 0 x4 x6).1) (S' := (sa_piece S 0 0 x4 x6).2) ho (by omega) hC rfl (fun M' hx hC' => ?_)))))
    have hr : lr S (sa_piece S 0 0 x4 x6).2 := lr_piece
    have h3 : (sa_piece S 0 0 x4 x6).2 0 3 = S 0 3 := by
      have no : ∀ r, sg_no S r 0 3 = S 0 3 := fun r => by
        exact mv_up_c (a := 34) (c := 0) (by decide)
      unfold sa_piece sg_ip
      split
      · exact no (-1)
      · split
        · exact no (-4)
        · split
          · exact no (-6)
          · dsimp only
            rw [mv_up_c (a := 19) (c := 0) (by decide), mv_up_c (a := 18) (c := 0) (by decide), mv_up_c (a := 17) (c := 0) (by decide)]
    refine lo_187 hW hH (by omega) (h3.trans h4) ⟨so_piece ho, ⟨(hr 0 0 (by omega)).trans hD.1, (hr 0 1 (by omega)).trans hD.2⟩, fun i => (hr 4 i (by omega)).trans (z4 i), fun p hp => ?_, fun p h1 h2 => by omega, hC'⟩ hN
    rw [hr 3 _ (by omega), hx 88 p (Or.inr (by omega))]
    exact hd p hp
  · rw [if_neg y]
    exact lo_187 hW hH (by omega) h4 ⟨sg_oo_s ho, hD, z4, hd, hu, hC⟩ hN
end OW
