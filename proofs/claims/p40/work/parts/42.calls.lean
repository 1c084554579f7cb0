/-! THE LAW's CALLS OF THE CLASS, with rows behind its cells; what they answer there -/
section LZ
variable {S S' M : mv_Mem} {c e l : Nat} {G : mv_G} {F : Int → mv_Mem → Prop} {x : Int}
theorem lz_acre (ho : sg_oo c S) (hc : c ≤ 100000) (h : sg_CC S M) {a b : Int} (ha : mv_R32 a) (q : sa_acre S a b = (x, S')) (hF : ∀ M', sg_X M M' → sg_CC S' M' → F x M') : mv_Wp G 88 [.inr (.inr 1), .inl a, .inl b] (lh l e) M (mv_qi (lh l e) F) :=
  lx_i rfl rfl (fun _ _ _ h hF => ca_acre ho hc h ha (by rw [q]; exact hF)) h hF
theorem lz_goes (ho : sg_oo c S) (hc : c ≤ 100000) (h : sg_CC S M) {a b : Int} (ha : mv_R32 a) (q : sa_goes S a b = (x, S')) (hF : ∀ M', sg_X M M' → sg_CC S' M' → F x M') : mv_Wp G 100 [.inr (.inr 1), .inl a, .inl b] (lh l e) M (mv_qi (lh l e) F) :=
  lx_i rfl rfl (fun _ _ _ h hF => ca_goes ho hc h ha (by rw [q]; exact hF)) h hF
theorem lz_rent (ho : sg_oo c S) (hc : c ≤ 100000) (h : sg_CC S M) {a : Int} (ha : mv_R32 a) (q : sa_rent S a = (x, S')) (hF : ∀ M', sg_X M M' → sg_CC S' M' → F x M') : mv_Wp G 101 [.inr (.inr 1), .inl a] (lh l e) M (mv_ql (lh l e) F) :=
  lx_l rfl rfl (fun _ _ _ h hF => ca_rent ho hc h ha (by rw [q]; exact hF)) h hF
theorem lz_piece (ho : sg_oo c S) (hc : c ≤ 100000) (h : sg_CC S M) {a b d f : Int} (q : sa_piece S a b d f = (x, S')) (hF : ∀ M', sg_X M M' → sg_CC S' M' → F x M') : mv_Wp G 103 [.inr (.inr 1), .inl a, .inl b, .inl d, .inl f] (lh l e) M (mv_qi (lh l e) F) :=
  lx_i rfl rfl (fun _ _ _ h hF => ca_piece ho hc h (by rw [q]; exact hF)) h hF
theorem lz_rounds (ho : sg_oo c S) (hc : c ≤ 100000) (h : sg_CC S M) {a : Int} (q : sa_rounds S a = (x, S')) (hF : ∀ M', sg_X M M' → sg_CC S' M' → F x M') : mv_Wp G 106 [.inr (.inr 1), .inl a] (lh l e) M (mv_qi (lh l e) F) :=
  lx_i rfl rfl (fun _ _ _ h hF => ca_rounds ho hc h (by rw [q]; exact hF)) h hF
theorem lz_falls (ho : sg_oo c S) (hc : c ≤ 100000) (h : sg_CC S M) {a v : Int} (q : sa_falls S a v = (x, S')) (hF : ∀ M', sg_X M M' → sg_CC S' M' → F x M') : mv_Wp G 117 [.inr (.inr 1), .inl a, .inl v] (lh l e) M (mv_qi (lh l e) F) :=
  lx_i rfl rfl (fun _ _ _ h hF => ca_falls ho hc h (by rw [q]; exact hF)) h hF
theorem lz_own (ho : sg_oo c S) (hc : c ≤ 100000) (h : sg_CC S M) {a b : Int} (ha : mv_R32 a) (q : sa_own S a b = (x, S')) (hF : ∀ M', sg_X M M' → sg_CC S' M' → F x M') : mv_Wp G 118 [.inr (.inr 1), .inl a, .inl b] (lh l e) M (mv_qi (lh l e) F) :=
  lx_i rfl rfl (fun _ _ _ h hF => ca_own ho hc h ha (by rw [q]; exact hF)) h hF
theorem lz_held (ho : sg_oo c S) (hc : c ≤ 100000) (h : sg_CC S M) {a b : Int} (ha : mv_R32 a) (q : sa_held S a b = (x, S')) (hF : ∀ M', sg_X M M' → sg_CC S' M' → F x M') : mv_Wp G 119 [.inr (.inr 1), .inl a, .inl b] (lh l e) M (mv_qi (lh l e) F) :=
  lx_i rfl rfl (fun _ _ _ h hF => ca_held ho hc h ha (by rw [q]; exact hF)) h hF
theorem lz_hold (ho : sg_oo c S) (hc : c ≤ 100000) (h : sg_CC S M) {a : Int} (q : sa_hold S a = (x, S')) (hF : ∀ M', sg_X M M' → sg_CC S' M' → F x M') : mv_Wp G 120 [.inr (.inr 1), .inl a] (lh l e) M (mv_qi (lh l e) F) :=
  lx_i rfl rfl (fun _ _ _ h hF => ca_hold ho hc h (by rw [q]; exact hF)) h hF
theorem lz_image (ho : sg_oo c S) (h : sg_CC S M) (q : sa_image S = (x, S')) (hF : ∀ M', sg_X M M' → sg_CC S' M' → F x M') : mv_Wp G 123 [.inr (.inr 1)] (lh l e) M (mv_qi (lh l e) F) :=
  lx_i rfl rfl (fun _ _ _ h hF => ca_image ho h (by rw [q]; exact hF)) h hF
theorem lz_on (ho : sg_oo c S) (hc : c ≤ 100000) (h : sg_CC S M) (q : sa_on S = (x, S')) (hF : ∀ M', sg_X M M' → sg_CC S' M' → F x M') : mv_Wp G 124 [.inr (.inr 1)] (lh l e) M (mv_qi (lh l e) F) :=
  lx_i rfl rfl (fun _ _ _ h hF => ca_on ho hc h (by rw [q]; exact hF)) h hF
theorem lz_count (ho : sg_oo c S) (h : sg_CC S M) {a : Int} (q : sa_count S a = (x, S')) (hF : ∀ M', sg_X M M' → sg_CC S' M' → F x M') : mv_Wp G 125 [.inr (.inr 1), .inl a] (lh l e) M (mv_qi (lh l e) F) :=
  lx_i rfl rfl (fun _ _ _ h hF => ca_count ho h (by rw [q]; exact hF)) h hF
theorem lz_tax (ho : sg_oo c S) (hc : c ≤ 100000) (h : sg_CC S M) {a v : Int} (q : sa_tax S a v = (x, S')) (hF : ∀ M', sg_X M M' → sg_CC S' M' → F x M') : mv_Wp G 97 [.inr (.inr 1), .inl a, .inl v] (lh l e) M (mv_qi (lh l e) F) :=
  lx_i rfl rfl (fun _ _ _ h hF => ca_tax ho hc h (by rw [q]; exact hF)) h hF
end LZ
/-! acres by their places -/
/-- wide W, high H -/
def lo_D (W H : Nat) (S : mv_Mem) : Prop := S 0 0 = (W : Int) ∧ S 0 1 = (H : Int)
/-- the acre of the place p, as the law tells it -/
def lo_xy (W p : Nat) : Int := 10 * ((p : Int) % (W : Int)) + (p : Int) / (W : Int)
def lo_k (W p : Nat) : Nat := 8 * (p / W) + p % W
section LO
variable {S S' : mv_Mem} {W H p : Nat}
theorem lo_in (hD : lo_D W H S) (p : Nat) : sg_in S p = lo_k W p := by
  unfold sg_in lo_k
  rw [hD.1, Int.toNat_natCast]
theorem lo_pq (hW : 2 ≤ W ∧ W ≤ 4) (hH : 1 ≤ H ∧ H ≤ 3) (hp : p < W * H) : p % W < W ∧ p / W < H ∧ p < 12 := by
  refine ⟨Nat.mod_lt _ (by omega), Nat.div_lt_of_lt_mul hp, ?_⟩
  have : W * H ≤ 4 * 3 := Nat.mul_le_mul hW.2 hH.2
  omega
theorem lo_xy_e (W p : Nat) : lo_xy W p = ((10 * (p % W) + p / W : Nat) : Int) := by
  unfold lo_xy
  rw [← Int.natCast_emod, ← Int.natCast_ediv]
  omega
theorem lo_xy_R (hW : 2 ≤ W ∧ W ≤ 4) (hH : 1 ≤ H ∧ H ≤ 3) (hp : p < W * H) : 0 ≤ lo_xy W p ∧ lo_xy W p ≤ 100 := by
  obtain ⟨h1, h2, -⟩ := lo_pq hW hH hp
  rw [lo_xy_e]
  generalize p % W = x at *
  generalize p / W = y at *
  omega
theorem lo_ac (hW : 2 ≤ W ∧ W ≤ 4) (hH : 1 ≤ H ∧ H ≤ 3) (hD : lo_D W H S) (hp : p < W * H) : sg_ac S (lo_xy W p) = (lo_k W p : Int) := by
  obtain ⟨h1, h2, -⟩ := lo_pq hW hH hp
  rw [lo_xy_e]
  unfold sg_ac lo_k
  rw [hD.1, hD.2]
  generalize p % W = x at *
  generalize p / W = y at *
  rw [if_pos (by omega)]
  omega
theorem lo_ok (hW : 2 ≤ W ∧ W ≤ 4) (hH : 1 ≤ H ∧ H ≤ 3) (hD : lo_D W H S) (hp : p < W * H) : sg_ok S (lo_k W p) := by
  obtain ⟨h1, h2, -⟩ := lo_pq hW hH hp
  unfold sg_ok lo_k
  rw [hD.1, hD.2]
  omega
theorem lo_inj (hW : 2 ≤ W ∧ W ≤ 4) {q : Nat} (h : lo_k W p = lo_k W q) : p = q := by
  unfold lo_k at h
  have h1 := Nat.mod_lt p (show 0 < W by omega)
  have h2 := Nat.mod_lt q (show 0 < W by omega)
  have e1 : p / W = q / W := by omega
  have e2 : p % W = q % W := by omega
  rw [← Nat.div_add_mod p W, ← Nat.div_add_mod q W, e1, e2]
theorem lo_n (hW : 2 ≤ W ∧ W ≤ 4) (hH : 1 ≤ H ∧ H ≤ 3) : 2 ≤ W * H ∧ W * H ≤ 12 ∧ ((W * H : Nat) : Int) = (W : Int) * (H : Int) := by
  refine ⟨?_, Nat.mul_le_mul hW.2 hH.2, Int.natCast_mul _ _⟩
  have : 2 * 1 ≤ W * H := Nat.mul_le_mul hW.1 hH.1
  omega
/-- an acre of the land is the acre of a place -/
theorem lo_back (hW : 2 ≤ W ∧ W ≤ 4) (hH : 1 ≤ H ∧ H ≤ 3) (hw : sg_wf S) (hD : lo_D W H S) {k : Nat} (hk : sg_ok S k) : ∃ p, p < W * H ∧ lo_k W p = k := by
  refine ⟨sg_pl S k, ?_, ?_⟩
  · have h1 := (sg_pl_lt hw hk).1
    rw [hD.1, hD.2] at h1
    have := (lo_n hW hH).2.2
    omega
  · rw [← lo_in hD]
    exact sg_in_pl hw hk
theorem sg_oo_k {c : Nat} (h : sg_oo c S) (hw : sg_wf S') (hs : ∀ a i, 30 ≤ a → S' a i = S a i) : sg_oo c S' := by
  obtain ⟨-, h2, h3, h4, h5, h6, h7⟩ := h
  have e : sg_kp S' = sg_kp S := by
    funext a i
    exact hs (40 + a) i (by omega)
  refine ⟨hw, by rw [hs 30 0 (by decide)]; exact h2, fun i => by rw [hs 31 i (by decide)]; exact h3 i, by rw [hs 32 0 (by decide)]; exact h4, fun i hi => by rw [hs 34 i (by decide)]; exact h5 i hi, by rw [hs 35 0 (by decide)]; exact h6, fun z => ?_⟩
  rw [hs 35 0 (by decide)] at z
  rw [e]
  exact h7 z
/-! what does not know of refusals -/
theorem sg_mx_ct (S : mv_Mem) (k : Nat) : sg_mx (sg_ct S) k = sg_mx S k := by
  show (if S 4 k = 0 then (sg_g (sg_ct S) (-1) k (3 * (S 0 3).toNat)).2 else 0) = _
  rw [sg_g_ct]
  rfl
theorem sg_rt_ct (S : mv_Mem) (k : Nat) : sg_rt (sg_ct S) k = sg_rt S k := by
  show sg_mx (sg_ct S) k - (sg_mx (sg_ct S) k * S 0 4).tdiv 100 = _
  rw [sg_mx_ct]
  rfl
theorem sg_all_ct (S : mv_Mem) : sg_all (sg_ct S) = sg_all S := by
  unfold sg_all
  rw [sg_fo_S (S := S) (S' := sg_ct S) (fun k => rfl)]
  exact sg_fo_c (fun k x _ => by rw [sg_rt_ct]) 48
theorem sg_all_no {r : Int} : sg_all (sg_no S r) = sg_all S := by
  rw [← sg_all_ct (sg_no S r), sg_sw_ct (S := S) (S' := sg_no S r) (fun a i ha => mv_up_c (by omega)), sg_all_ct]
end LO
