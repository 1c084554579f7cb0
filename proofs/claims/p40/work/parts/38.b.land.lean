/-! THE LAND THAT THE LAW LAYS: what each of its calls leaves as it was -/
theorem sg_oo_le {S : mv_Mem} {c c' : Nat} (h : sg_oo c S) (hc : c ≤ c') : sg_oo c' S := ⟨h.1, h.2.1, h.2.2.1, h.2.2.2.1, fun i hi => by have := h.2.2.2.2.1 i hi; omega, h.2.2.2.2.2⟩
/-- wide and high, the owners, what is held are as they were -/
def lr (S S' : mv_Mem) : Prop := ∀ a i, (a = 0 ∧ i ≤ 1) ∨ a = 3 ∨ a = 4 → S' a i = S a i
section LR
variable {S S' : mv_Mem}
theorem lr_r : lr S S := fun _ _ _ => rfl
theorem lr_up {a j : Nat} {v : Int} (h : lr S S') (hj : ¬ ((a = 0 ∧ j ≤ 1) ∨ a = 3 ∨ a = 4)) : lr S (mv_up S' a j v) := fun b i hb => (mv_up_n (fun z => by omega)).trans (h b i hb)
theorem lr_no {r : Int} : lr S (sg_no S r) := lr_up lr_r (by omega)
theorem lr_t {P : Prop} [Decidable P] {A B : Int × mv_Mem} (h1 : P → lr S A.2) (h2 : ¬ P → lr S B.2) : lr S (if P then A else B).2 := by
  by_cases h : P
  · rw [if_pos h]; exact h1 h
  · rw [if_neg h]; exact h2 h
theorem lr_ip {P : Prop} {A B : Int × mv_Mem} (h1 : P → lr S A.2) (h2 : ¬ P → lr S B.2) : lr S (sg_ip P A B).2 := by
  by_cases h : P
  · rw [sg_ip_y h]; exact h1 h
  · rw [sg_ip_n h]; exact h2 h
theorem lr_toll {a b : Int} : lr S (sa_toll S a b).2 := by
  unfold sa_toll
  exact lr_t (fun _ => lr_no) (fun _ => lr_t (fun _ => lr_no) (fun _ => lr_up lr_r (by omega)))
theorem lr_road {a b e : Int} : lr S (sa_road S a b e).2 := by
  unfold sa_road sg_lay
  exact lr_t (fun _ => lr_no) (fun _ => lr_t (fun _ => lr_no) (fun _ => lr_t (fun _ => lr_no) (fun _ => lr_up (lr_up (lr_up lr_r (by omega)) (by omega)) (by omega))))
theorem lr_market {a : Int} : lr S (sa_market S a).2 := by
  unfold sa_market
  exact lr_t (fun _ => lr_no) (fun _ => lr_t (fun _ => lr_no) (fun _ => lr_t (fun _ => lr_no) (fun _ => lr_up (lr_up lr_r (by omega)) (by omega))))
theorem lr_use {a b d e f : Int} : lr S (sa_use S a b d e f).2 := by
  unfold sa_use
  exact lr_t (fun _ => lr_no) (fun _ => lr_t (fun _ => lr_no) (fun _ => lr_t (fun _ => lr_no) (fun _ => lr_up (lr_up (lr_up (lr_up (lr_up (lr_up lr_r (by omega)) (by omega)) (by omega)) (by omega)) (by omega)) (by omega))))
theorem lr_year {a v : Int} : lr S (sa_year S a v).2 := by
  unfold sa_year
  exact lr_t (fun _ => lr_no) (fun _ => lr_t (fun _ => lr_no) (fun _ => lr_t (fun _ => lr_no) (fun _ => lr_t (fun _ => lr_no) (fun _ => lr_up (lr_up lr_r (by omega)) (by omega)))))
theorem lr_price {a b v : Int} : lr S (sa_price S a b v).2 := by
  unfold sa_price
  exact lr_ip (fun _ => lr_no) (fun _ => lr_t (fun _ => lr_no) (fun _ => lr_up lr_r (by omega)))
theorem lr_tax {a v : Int} : lr S (sa_tax S a v).2 := by
  unfold sa_tax
  exact lr_t (fun _ => lr_t (fun _ => lr_no) (fun _ => lr_up lr_r (by omega))) (fun _ => lr_t (fun _ => lr_no) (fun _ => lr_t (fun _ => lr_no) (fun _ => lr_up lr_r (by omega))))
theorem lr_piece {a b d e : Int} : lr S (sa_piece S a b d e).2 := by
  unfold sa_piece
  exact lr_ip (fun _ => lr_no) (fun _ => lr_t (fun _ => lr_no) (fun _ => lr_t (fun _ => lr_no) (fun _ => lr_up (lr_up (lr_up lr_r (by omega)) (by omega)) (by omega))))
end LR
/-! the text of a land -/
def lt_P (W L : Nat) (S : mv_Mem) : Prop := S 30 0 = (L : Int) ∧ ∀ p, p < L → (p % (W + 1) = W → S 31 p = 47) ∧ (p % (W + 1) ≠ W → 48 ≤ S 31 p ∧ S 31 p ≤ 57)
theorem lt_feed {W L : Nat} {S : mv_Mem} {b : Int} (hL : L ≤ 50) (h : lt_P W L S) (h1 : L % (W + 1) = W → b = 47) (h2 : L % (W + 1) ≠ W → 48 ≤ b ∧ b ≤ 57) : lt_P W (L + 1) (sa_feed S 1 b).2 := by
  obtain ⟨h0, hp⟩ := h
  have hb : 47 ≤ b ∧ b ≤ 57 := by
    by_cases q : L % (W + 1) = W
    · have := h1 q; omega
    · have := h2 q; omega
  unfold sa_feed
  rw [if_neg (by decide), h0, if_neg (by omega)]
  refine ⟨?_, fun p hp2 => ?_⟩
  · show (L : Int) + 1 = ((L + 1 : Nat) : Int)
    omega
  · have e : (if 31 = 30 ∧ p = 0 then (L : Int) + 1 else if 31 = 31 ∧ (L : Int).toNat ≤ p ∧ p < (L : Int).toNat + (1 : Int).toNat then sg_by b (p - (L : Int).toNat) else S 31 p) = if p = L then b else S 31 p := by
      rw [if_neg (by omega)]
      by_cases q : p = L
      · rw [if_pos (by omega), if_pos q]
        unfold sg_by
        rw [show p - (L : Int).toNat = 0 by omega]
        show b / 1 % 256 = b
        omega
      · rw [if_neg (by omega), if_neg q]
    show (_ → (if 31 = 30 ∧ p = 0 then (L : Int) + 1 else if 31 = 31 ∧ (L : Int).toNat ≤ p ∧ p < (L : Int).toNat + (1 : Int).toNat then sg_by b (p - (L : Int).toNat) else S 31 p) = 47) ∧ (_ → 48 ≤ (if 31 = 30 ∧ p = 0 then (L : Int) + 1 else if 31 = 31 ∧ (L : Int).toNat ≤ p ∧ p < (L : Int).toNat + (1 : Int).toNat then sg_by b (p - (L : Int).toNat) else S 31 p) ∧ (if 31 = 30 ∧ p = 0 then (L : Int) + 1 else if 31 = 31 ∧ (L : Int).toNat ≤ p ∧ p < (L : Int).toNat + (1 : Int).toNat then sg_by b (p - (L : Int).toNat) else S 31 p) ≤ 57)
    rw [e]
    by_cases q : p = L
    · rw [if_pos q, q]
      exact ⟨h1, h2⟩
    · rw [if_neg q]
      exact hp p (by omega)
theorem lt_mod {W Y X : Nat} (hX : X ≤ W) : (Y * (W + 1) + X) % (W + 1) = X := by
  rw [Nat.add_comm, Nat.add_mul_mod_self_right, Nat.mod_eq_of_lt (by omega)]
theorem lt_prs_i {t : Nat → Int} {n W H : Nat} (hW : 1 ≤ W ∧ W ≤ 7) (hH : 1 ≤ H ∧ H ≤ 6) (hn : n + 1 = H * (W + 1)) (hp : ∀ p, p < n → (p % (W + 1) = W → t p = 47) ∧ (p % (W + 1) ≠ W → 48 ≤ t p ∧ t p ≤ 57)) :
    ∀ (f Y X : Nat), X ≤ W → Y < H → Y * (W + 1) + X + f = n → sg_pr t n f (Y * (W + 1) + X) (if Y = 0 then 8 else (W : Int)) (Y : Int) (X : Int) = (-1, (W : Int), (H : Int)) := by
  intro f
  induction f with
  | zero =>
    intro Y X hX hY hi
    have hY2 : Y + 1 = H := by
      have h1 : H * (W + 1) ≤ (Y + 1) * (W + 1) := by
        rw [Nat.succ_mul]
        omega
      have h2 := Nat.le_of_mul_le_mul_right h1 (by omega)
      omega
    have hX2 : X = W := by
      rw [← hY2, Nat.succ_mul] at hn
      omega
    unfold sg_pr
    have hw : ¬ ((X : Int) = 0 ∨ (0 < (Y : Int) ∧ (X : Int) < (if Y = 0 then 8 else (W : Int)))) := by
      by_cases y : Y = 0
      · rw [if_pos y]; omega
      · rw [if_neg y]; omega
    rw [if_neg hw]
    have e1 : (if (Y : Int) = 0 then (X : Int) else if Y = 0 then 8 else (W : Int)) = (W : Int) := by
      by_cases y : Y = 0
      · rw [if_pos (by omega), hX2]
      · rw [if_neg (by omega), if_neg y]
    rw [e1, show (Y : Int) + 1 = (H : Int) by omega]
  | succ f ih =>
    intro Y X hX hY hi
    have hm := lt_mod (Y := Y) hX
    have hpp := hp (Y * (W + 1) + X) (by omega)
    rw [hm] at hpp
    unfold sg_pr
    by_cases hXW : X = W
    · rw [if_pos (hpp.1 hXW)]
      have hY2 : Y + 1 < H := by
        have h1 : (Y + 1) * (W + 1) < H * (W + 1) := by
          rw [Nat.succ_mul]
          omega
        exact Nat.lt_of_mul_lt_mul_right h1
      have hw : ¬ ((X : Int) = 0 ∨ (0 < (Y : Int) ∧ (X : Int) < (if Y = 0 then 8 else (W : Int))) ∨ (Y : Int) + 1 = 6) := by
        by_cases y : Y = 0
        · rw [if_pos y]; omega
        · rw [if_neg y]; omega
      rw [if_neg hw]
      have e := ih (Y + 1) 0 (by omega) hY2 (by rw [Nat.succ_mul]; omega)
      rw [if_neg (by omega)] at e
      rw [show Y * (W + 1) + X + 1 = (Y + 1) * (W + 1) + 0 by rw [Nat.succ_mul]; omega, show (Y : Int) + 1 = ((Y + 1 : Nat) : Int) by omega, hXW]
      exact e
    · have h9 := hpp.2 hXW
      have hw : (X : Int) ≠ (if Y = 0 then 8 else (W : Int)) := by
        by_cases y : Y = 0
        · rw [if_pos y]; omega
        · rw [if_neg y]; omega
      rw [if_neg (by omega), if_pos ⟨h9, hw⟩]
      exact ih Y (X + 1) (by omega) hY (by omega)
theorem lt_prs {S : mv_Mem} {n W H : Nat} (hW : 1 ≤ W ∧ W ≤ 7) (hH : 1 ≤ H ∧ H ≤ 6) (hn : n + 1 = H * (W + 1)) (h : lt_P W n S) : sg_prs (S 31) (S 30 0).toNat = (-1, (W : Int), (H : Int)) := by
  have e := lt_prs_i hW hH hn h.2 n 0 0 (by omega) (by omega) (by omega)
  rw [h.1, Int.toNat_natCast]
  rw [Nat.zero_mul] at e
  exact e
/-! the state while the land is laid -/
def ll_Q (w h : Int) (c : Nat) (S : mv_Mem) : Prop := sg_oo c S ∧ S 0 0 = w ∧ S 0 1 = h ∧ (∀ k, S 3 k = -1) ∧ ∀ k, S 4 k = 0
def ll_I (w h : Int) (c : Nat) (M0 S M : mv_Mem) : Prop := ll_Q w h c S ∧ sg_CC S M ∧ sg_X M0 M
section LI
variable {w h : Int} {c : Nat} {M0 S M : mv_Mem} {G : mv_G} {l : Nat} {F : Int → mv_Mem → Prop}
theorem ll_Q_s {S' : mv_Mem} (hQ : ll_Q w h c S) (ho : sg_oo (c + 1) S') (hr : lr S S') : ll_Q w h (c + 1) S' := by
  obtain ⟨q1, q2, q3, q4, q5⟩ := hQ
  refine ⟨ho, ?_, ?_, fun k => ?_, fun k => ?_⟩
  · rw [hr 0 0 (by omega)]; exact q2
  · rw [hr 0 1 (by omega)]; exact q3
  · rw [hr 3 k (by omega)]; exact q4 k
  · rw [hr 4 k (by omega)]; exact q5 k
theorem ll_I_le {c' : Nat} (hI : ll_I w h c M0 S M) (hc : c ≤ c') : ll_I w h c' M0 S M := ⟨⟨sg_oo_le hI.1.1 hc, hI.1.2⟩, hI.2⟩
theorem ll_read {W H n : Nat} (hW : 1 ≤ W ∧ W ≤ 7) (hH : 1 ≤ H ∧ H ≤ 6) (hn : n + 1 = H * (W + 1)) (ho : sg_oo c S) (hp : lt_P W n S) : ll_Q (W : Int) (H : Int) (c + 1) (sa_read S).2 := by
  have hso := so_read ho
  unfold sa_read at hso ⊢
  rw [lt_prs hW hH hn hp] at hso ⊢
  rw [if_pos rfl] at hso ⊢
  exact ⟨hso, rfl, rfl, fun _ => rfl, fun _ => rfl⟩
theorem li_toll (hI : ll_I w h c M0 S M) (hc : c ≤ 100000) {a b : Int} (ha : mv_R32 a) (hF : ∀ x S' M', ll_I w h (c + 1) M0 S' M' → F x M') : mv_Wp G 91 [.inr (.inr 1), .inl a, .inl b] (mh l) M (mv_qi (mh l) F) :=
  ca_toll hI.1.1 hc hI.2.1 ha (fun M' hx hq => hF _ _ M' ⟨ll_Q_s hI.1 (so_toll hI.1.1) lr_toll, hq, sg_X_t hI.2.2 hx⟩)
theorem li_road (hI : ll_I w h c M0 S M) (hc : c ≤ 100000) {a b d : Int} (ha : mv_R32 a) (hb : mv_R32 b) (hd : 1 ≤ d) (hF : ∀ x S' M', ll_I w h (c + 1) M0 S' M' → F x M') : mv_Wp G 89 [.inr (.inr 1), .inl a, .inl b, .inl d] (mh l) M (mv_qi (mh l) F) :=
  ca_road hI.1.1 hc hI.2.1 ha hb (fun M' hx hq => hF _ _ M' ⟨ll_Q_s hI.1 (so_road hI.1.1 hd) lr_road, hq, sg_X_t hI.2.2 hx⟩)
theorem li_market (hI : ll_I w h c M0 S M) (hc : c ≤ 100000) {a : Int} (ha : mv_R32 a) (hF : ∀ x S' M', ll_I w h (c + 1) M0 S' M' → F x M') : mv_Wp G 93 [.inr (.inr 1), .inl a] (mh l) M (mv_qi (mh l) F) :=
  ca_market hI.1.1 hc hI.2.1 ha (fun M' hx hq => hF _ _ M' ⟨ll_Q_s hI.1 (so_market hI.1.1) lr_market, hq, sg_X_t hI.2.2 hx⟩)
theorem li_use (hI : ll_I w h c M0 S M) (hc : c ≤ 100000) {a b d e f : Int} (hF : ∀ x S' M', ll_I w h (c + 1) M0 S' M' → F x M') : mv_Wp G 94 [.inr (.inr 1), .inl a, .inl b, .inl d, .inl e, .inl f] (mh l) M (mv_qi (mh l) F) :=
  ca_use hI.1.1 hc hI.2.1 (fun M' hx hq => hF _ _ M' ⟨ll_Q_s hI.1 (so_use hI.1.1) lr_use, hq, sg_X_t hI.2.2 hx⟩)
theorem li_year (hI : ll_I w h c M0 S M) (hc : c ≤ 100000) {a b : Int} (hF : ∀ x S' M', ll_I w h (c + 1) M0 S' M' → F x M') : mv_Wp G 95 [.inr (.inr 1), .inl a, .inl b] (mh l) M (mv_qi (mh l) F) :=
  ca_year hI.1.1 hc hI.2.1 (fun M' hx hq => hF _ _ M' ⟨ll_Q_s hI.1 (so_year hI.1.1) lr_year, hq, sg_X_t hI.2.2 hx⟩)
theorem li_price (hI : ll_I w h c M0 S M) (hc : c ≤ 100000) {a b v : Int} (hF : ∀ x S' M', ll_I w h (c + 1) M0 S' M' → F x M') : mv_Wp G 96 [.inr (.inr 1), .inl a, .inl b, .inl v] (mh l) M (mv_qi (mh l) F) :=
  ca_price hI.1.1 hc hI.2.1 (fun M' hx hq => hF _ _ M' ⟨ll_Q_s hI.1 (so_price hI.1.1) lr_price, hq, sg_X_t hI.2.2 hx⟩)
theorem li_tax (hI : ll_I w h c M0 S M) (hc : c ≤ 100000) {a v : Int} (hF : ∀ x S' M', ll_I w h (c + 1) M0 S' M' → F x M') : mv_Wp G 97 [.inr (.inr 1), .inl a, .inl v] (mh l) M (mv_qi (mh l) F) :=
  ca_tax hI.1.1 hc hI.2.1 (fun M' hx hq => hF _ _ M' ⟨ll_Q_s hI.1 (so_tax hI.1.1) lr_tax, hq, sg_X_t hI.2.2 hx⟩)
theorem li_count2 (hI : ll_I w h c M0 S M) (hF : ∀ x M', 0 ≤ x → x ≤ 3 → ll_I w h c M0 S M' → F x M') : mv_Wp G 125 [.inr (.inr 1), .inl 2] (mh l) M (mv_qi (mh l) F) :=
  ca_count hI.1.1 hI.2.1 (fun M' hx hq => hF _ M' hI.1.1.1.1.2.2.1.1 hI.1.1.1.1.2.2.1.2 ⟨hI.1, hq, sg_X_t hI.2.2 hx⟩)
end LI
