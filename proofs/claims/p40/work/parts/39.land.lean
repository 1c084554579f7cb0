/-! THE LAND THAT THE LAW LAYS -/
section LA
variable {w h : Int} {c : Nat} {M0 S M : mv_Mem} {G : mv_G} {l : Nat} {F : Int → mv_Mem → Prop}
def la_F (w h : Int) (c : Nat) (M0 : mv_Mem) (F : Int → mv_Mem → Prop) : Prop := ∀ S' M', ll_I w h c M0 S' M' → F w M'
theorem la_445 (hI : ll_I w h c M0 S M) (hc : c ≤ 1000) (hF : la_F w h (c + 1) M0 F) : mv_Run G 230 87 4749 445 [(0, .inr (.inr 1)), (1, .inr (.inr 0)), (2, .inl w)] [] (mh l) M (mv_qi (mh l) F) := by
  refine vr_L_land_445 (ll_cell rfl (by omega) (fun x1 => ll_pick (by omega) (fun x2 _ _ => ?_)))
  by_cases q : x2 = 0
  · rw [if_pos q]
    exact ll_cell rfl (by omega) (fun x4 => ll_pick (by omega) (fun x5 _ _ => li_tax hI (by omega) (fun _ S' M' hI' => mv_qi_i (hF S' M' hI'))))
  · rw [if_neg q]
    exact li_tax hI (by omega) (fun _ S' M' hI' => mv_qi_i (hF S' M' hI'))
theorem la_400 {v4 v5 : Int} (h5 : 0 ≤ v5 ∧ v5 ≤ 10) (hI : ll_I w h c M0 S M) (hc : c ≤ 1000) (hF : ∀ S' M', ll_I w h (c + 1) M0 S' M' → mv_Run G 230 87 4749 253 [(0, .inr (.inr 1)), (1, .inr (.inr 0)), (2, .inl w), (4, .inl v4), (5, .inl (v5 + 1))] [] (mh l) M' (mv_qi (mh l) F)) :
    mv_Run G 230 87 4749 400 [(0, .inr (.inr 1)), (1, .inr (.inr 0)), (2, .inl w), (4, .inl v4), (5, .inl v5)] [] (mh l) M (mv_qi (mh l) F) := by
  refine vr_L_land_400 (ll_cell rfl (by omega) (fun x1 => ll_pick (by omega) (fun x2 _ _ => ?_)))
  by_cases q : x2 = 0
  · rw [if_pos q]
    exact ll_cell rfl (by omega) (fun x3 => ⟨by omega, by omega, ll_pick (by omega) (fun x4 _ _ => li_tax hI (by omega) (fun _ S' M' hI' => vr_L_land_439 ⟨by omega, hF S' M' hI'⟩))⟩)
  · rw [if_neg q]
    exact vr_L_land_439 ⟨by omega, hF S M (ll_I_le hI (by omega))⟩
theorem la_m {v4 v5 : Int} (h5 : 0 ≤ v5 ∧ v5 ≤ 10) {c0 : Nat} (hc0 : c0 ≤ 500) (hF : ∀ S' M', ll_I w h (c0 + 4) M0 S' M' → mv_Run G 230 87 4749 400 [(0, .inr (.inr 1)), (1, .inr (.inr 0)), (2, .inl w), (4, .inl v4), (5, .inl v5)] [] (mh l) M' (mv_qi (mh l) F)) :
    ∀ (n m : Nat) (S M : mv_Mem), m + n = 4 → ll_I w h (c0 + m) M0 S M → mv_Run G 230 87 4749 355 [(0, .inr (.inr 1)), (1, .inr (.inr 0)), (2, .inl w), (4, .inl v4), (5, .inl v5), (7, .inl (m : Int))] [] (mh l) M (mv_qi (mh l) F) := by
  intro n
  induction n with
  | zero =>
    intro m S M hm hI
    refine vr_L_land_355 (li_count2 hI (fun x M' hx0 hx hI' => ?_))
    rw [if_pos (by omega)]
    exact hF S M' (ll_I_le hI' (by omega))
  | succ n ih =>
    intro m S M hm hI
    refine vr_L_land_355 (li_count2 hI (fun x M' hx0 hx hI' => ?_))
    by_cases q : x ≤ (m : Int)
    · rw [if_pos q]
      exact hF S M' (ll_I_le hI' (by omega))
    · rw [if_neg q]
      exact ⟨by omega, ll_cell rfl (by omega) (fun x2 => ⟨by omega, ll_pick (by omega) (fun x3 _ _ => li_price hI' (by omega) (fun _ S2 M2 hI2 => ⟨by omega, ih (m + 1) S2 M2 (by omega) hI2⟩))⟩)⟩
theorem la_253 (hF : ∀ S' M', ll_I w h 201 M0 S' M' → F w M') {v4 : Nat} (h4 : v4 ≤ 3) : ∀ (n u : Nat) (S M : mv_Mem), u + n = v4 → ll_I w h (100 + 20 * u) M0 S M →
    mv_Run G 230 87 4749 253 [(0, .inr (.inr 1)), (1, .inr (.inr 0)), (2, .inl w), (4, .inl (v4 : Int)), (5, .inl (u : Int))] [] (mh l) M (mv_qi (mh l) F) := by
  intro n
  induction n with
  | zero =>
    intro u S M hu hI
    refine vr_L_land_253 ?_
    rw [if_pos (by omega)]
    exact la_445 (c := 200) (ll_I_le hI (by omega)) (by omega) hF
  | succ n ih =>
    intro u S M hu hI
    refine vr_L_land_253 ?_
    rw [if_neg (by omega)]
    refine ⟨by omega, ll_cell rfl (by omega) (fun x1 => ll_pick (by omega) (fun x2 _ _ => ll_pick (by omega) (fun x3 _ _ => ll_pick (by omega) (fun x4 _ _ => ll_pick (by omega) (fun x5 _ _ => ll_pick (by omega) (fun x6 _ _ => li_use hI (by omega) (fun _ S1 M1 hI1 => ll_pick (by omega) (fun x8 _ _ => ?_))))))))⟩
    have go : ∀ (S2 M2 : mv_Mem), ll_I w h (100 + 20 * u + 2) M0 S2 M2 → mv_Run G 230 87 4749 352 [(0, .inr (.inr 1)), (1, .inr (.inr 0)), (2, .inl w), (4, .inl (v4 : Int)), (5, .inl (u : Int))] [] (mh l) M2 (mv_qi (mh l) F) := by
      intro S2 M2 hI2
      refine vr_L_land_352 (la_m (c0 := 100 + 20 * u + 2) (by omega) (by omega) (fun S3 M3 hI3 => ?_) 4 0 S2 M2 rfl hI2)
      exact la_400 (by omega) hI3 (by omega) (fun S4 M4 hI4 => ih (u + 1) S4 M4 (by omega) (ll_I_le hI4 (by omega)))
    by_cases q : x8 = 3
    · rw [if_pos q]
      exact ll_pick (by omega) (fun x9 _ _ => ⟨by omega, li_year hI1 (by omega) (fun _ S2 M2 hI2 => go S2 M2 hI2)⟩)
    · rw [if_neg q]
      exact go S1 M1 (ll_I_le hI1 (by omega))
theorem la_236 (hF : ∀ S' M', ll_I w h 201 M0 S' M' → F w M') (hI : ll_I w h 100 M0 S M) : mv_Run G 230 87 4749 236 [(0, .inr (.inr 1)), (1, .inr (.inr 0)), (2, .inl w)] [] (mh l) M (mv_qi (mh l) F) := by
  refine vr_L_land_236 (ll_cell rfl (by omega) (fun x1 => ll_pick (by omega) (fun x2 h1 h2 => ⟨by omega, ?_⟩)))
  obtain ⟨v, ev⟩ := sg_nat (show 0 ≤ 1 + x2 by omega)
  rw [ev]
  exact la_253 hF (by omega) v 0 S M (by omega) hI
theorem la_wh (hw : 2 ≤ w ∧ w ≤ 4) (hh : 1 ≤ h ∧ h ≤ 3) : 2 ≤ w * h ∧ w * h ≤ 12 := by
  rcases (show w = 2 ∨ w = 3 ∨ w = 4 by omega) with rfl | rfl | rfl <;> omega
theorem la_co (hw : 2 ≤ w ∧ w ≤ 4) {k : Int} (hk : 0 ≤ k ∧ k ≤ 100) : mv_R32 (10 * (k % w) + k / w) := by
  have b1 := Int.emod_nonneg k (show w ≠ 0 by omega)
  have b2 := Int.emod_lt_of_pos k (show 0 < w by omega)
  have b3 := Int.ediv_nonneg hk.1 (show 0 ≤ w by omega)
  have b4 : k / w ≤ k := Int.ediv_le_self _ hk.1
  omega
theorem la_204 (hw : 2 ≤ w ∧ w ≤ 4) (hh : 1 ≤ h ∧ h ≤ 3) (hF : ∀ S' M', ll_I w h 201 M0 S' M' → F w M') (hI : ll_I w h 90 M0 S M) : mv_Run G 230 87 4749 204 [(0, .inr (.inr 1)), (1, .inr (.inr 0)), (2, .inl w), (3, .inl h)] [] (mh l) M (mv_qi (mh l) F) := by
  have wh := la_wh hw hh
  refine vr_L_land_204 (li_market hI (by omega) (by omega) (fun _ S1 M1 hI1 => ll_cell rfl (by omega) (fun x2 => ll_pick (by omega) (fun x3 _ _ => ?_))))
  by_cases q : x3 = 0
  · rw [if_pos q]
    refine ⟨by omega, by omega, ll_cellOf (by omega) (by omega) (li_market hI1 (by omega) (la_co hw (by omega)) (fun _ S2 M2 hI2 => la_236 hF (ll_I_le hI2 (by omega))))⟩
  · rw [if_neg q]
    exact la_236 hF (ll_I_le hI1 (by omega))
theorem la_110 (hw : 2 ≤ w ∧ w ≤ 4) (hh : 1 ≤ h ∧ h ≤ 3) (hF : ∀ S' M', ll_I w h 201 M0 S' M' → F w M') : ∀ (n k : Nat) (S M : mv_Mem), k + n = 3 → ll_I w h (80 + 2 * k) M0 S M →
    mv_Run G 230 87 4749 110 [(0, .inr (.inr 1)), (1, .inr (.inr 0)), (2, .inl w), (3, .inl h), (4, .inl (k : Int))] [] (mh l) M (mv_qi (mh l) F) := by
  have wh := la_wh hw hh
  intro n
  induction n with
  | zero =>
    intro k S M hk hI
    refine vr_L_land_110 ?_
    rw [if_pos (by omega)]
    exact la_204 hw hh hF (ll_I_le hI (by omega))
  | succ n ih =>
    intro k S M hk hI
    refine vr_L_land_110 ?_
    rw [if_neg (by omega)]
    exact ⟨by omega, ll_cell rfl (by omega) (fun x1 => ⟨by omega, ll_pick (by omega) (fun x2 a1 a2 => ll_cellOf (by omega) (by omega) ⟨by omega, ll_pick (by omega) (fun x4 b1 b2 => ⟨by omega, ll_cellOf (by omega) (by omega)
      (ll_pick (by omega) (fun x6 c1 c2 => ⟨by omega, li_road hI (by omega) (la_co hw (by omega)) (la_co hw (by omega)) (by omega) (fun _ S1 M1 hI1 => ⟨by omega, ll_pick (by omega) (fun x8 d1 d2 => ll_cellOf (by omega) (by omega) (ll_pick (by omega) (fun x10 _ _ => li_toll hI1 (by omega) (la_co hw (by omega)) (fun _ S2 M2 hI2 => ⟨by omega, ih (k + 1) S2 M2 (by omega) (ll_I_le hI2 (by omega))⟩))))⟩)⟩))⟩)⟩)⟩)⟩
/-- the text so far -/
def la_T (c W L : Nat) (M0 S M : mv_Mem) : Prop := sg_oo c S ∧ lt_P W L S ∧ sg_CC S M ∧ sg_X M0 M
theorem la_feed {W L : Nat} {b : Int} (hc : c ≤ 1000) (hL : L ≤ 50) (hT : la_T c W L M0 S M) (h1 : L % (W + 1) = W → b = 47) (h2 : L % (W + 1) ≠ W → 48 ≤ b ∧ b ≤ 57) (hb : mv_R64 b) (hF : ∀ x S' M', la_T (c + 1) W (L + 1) M0 S' M' → F x M') : mv_Wp G 86 [.inr (.inr 1), .inl 1, .inr (.inl b)] (mh l) M (mv_qi (mh l) F) :=
  ca_feed hT.1 (by omega) hT.2.2.1 (by omega) hb (fun M' hx hq => hF _ _ M' ⟨so_feed hT.1, lt_feed hL hT.2.1 h1 h2, hq, sg_X_t hT.2.2.2 hx⟩)
theorem la_38 {W H y : Nat} (hW : 2 ≤ W ∧ W ≤ 4) (hH : 1 ≤ H ∧ H ≤ 3) (hy : y < H)
    (hN : ∀ S M, la_T (5 * (y + 1)) W (if y + 1 < H then (y + 1) * (W + 1) else (y + 1) * (W + 1) - 1) M0 S M → mv_Run G 230 87 4749 29 [(0, .inr (.inr 1)), (1, .inr (.inr 0)), (2, .inl (W : Int)), (3, .inl (H : Int)), (4, .inl ((y : Int) + 1))] [] (mh l) M (mv_qi (mh l) F)) :
    ∀ (n x : Nat) (S M : mv_Mem), x + n = W → la_T (5 * y + x) W (y * (W + 1) + x) M0 S M →
    mv_Run G 230 87 4749 38 [(0, .inr (.inr 1)), (1, .inr (.inr 0)), (2, .inl (W : Int)), (3, .inl (H : Int)), (4, .inl (y : Int)), (5, .inl (x : Int))] [] (mh l) M (mv_qi (mh l) F) := by
  have hyw : y * (W + 1) ≤ 10 := by
    have h1 : y * (W + 1) ≤ 2 * (4 + 1) := Nat.mul_le_mul (by omega) (by omega)
    omega
  intro n
  induction n with
  | zero =>
    intro x S M hx hT
    have hx : x = W := by omega
    subst hx
    refine vr_L_land_38 ?_
    rw [if_pos (by omega)]
    refine ⟨by omega, ?_⟩
    by_cases q : (H : Int) - 1 ≤ (y : Int)
    · rw [if_pos q]
      refine ⟨by omega, hN S M ?_⟩
      rw [if_neg (by omega), show (y + 1) * (x + 1) - 1 = y * (x + 1) + x by rw [Nat.succ_mul]; omega]
      exact ⟨sg_oo_le hT.1 (by omega), hT.2⟩
    · rw [if_neg q]
      refine la_feed (by omega) (by omega) hT (fun _ => rfl) (fun z => absurd (lt_mod (Nat.le_refl _)) z) (by omega) (fun _ S' M' hT' => ⟨by omega, hN S' M' ?_⟩)
      rw [if_pos (by omega), show (y + 1) * (x + 1) = y * (x + 1) + x + 1 by rw [Nat.succ_mul]; omega]
      exact ⟨sg_oo_le hT'.1 (by omega), hT'.2⟩
  | succ n ih =>
    intro x S M hx hT
    have hm := lt_mod (Y := y) (show x ≤ W by omega)
    have hWy : 0 ≤ (W : Int) * (y : Int) ∧ (W : Int) * (y : Int) ≤ 100 := by
      have e : (W : Int) * (y : Int) = ((W * y : Nat) : Int) := (Int.natCast_mul _ _).symm
      have h1 : W * y ≤ 4 * 2 := Nat.mul_le_mul (by omega) (by omega)
      omega
    refine vr_L_land_38 ?_
    rw [if_neg (by omega)]
    exact ll_cell rfl (by omega) (fun x2 => ⟨by omega, by omega, by omega, ll_pick (by omega) (fun x3 _ _ => ⟨by omega, la_feed (by omega) (by omega) hT (fun z => by omega) (fun _ => by omega) (by omega) (fun _ S' M' hT' => ⟨by omega, ih (x + 1) S' M' (by omega) hT'⟩)⟩)⟩)
theorem la_29 {W H : Nat} (hW : 2 ≤ W ∧ W ≤ 4) (hH : 1 ≤ H ∧ H ≤ 3) (hF : ∀ S' M', ll_I (W : Int) (H : Int) 201 M0 S' M' → F (W : Int) M') : ∀ (n y : Nat) (S M : mv_Mem), y + n = H → la_T (5 * y) W (if y < H then y * (W + 1) else y * (W + 1) - 1) M0 S M →
    mv_Run G 230 87 4749 29 [(0, .inr (.inr 1)), (1, .inr (.inr 0)), (2, .inl (W : Int)), (3, .inl (H : Int)), (4, .inl (y : Int))] [] (mh l) M (mv_qi (mh l) F) := by
  intro n
  induction n with
  | zero =>
    intro y S M hy hT
    have hy : y = H := by omega
    subst hy
    rw [if_neg (by omega)] at hT
    refine vr_L_land_29 ?_
    rw [if_pos (by omega)]
    have hpos : 0 < y * (W + 1) := Nat.mul_pos (by omega) (by omega)
    refine ca_read hT.1 hT.2.2.1 (fun M' hx hq => la_110 (by omega) (by omega) hF 3 0 _ M' rfl ⟨?_, hq, sg_X_t hT.2.2.2 hx⟩)
    have hQ := ll_read (W := W) (H := y) (by omega) (by omega) (by omega) hT.1 hT.2.1
    exact ⟨sg_oo_le hQ.1 (by omega), hQ.2⟩
  | succ n ih =>
    intro y S M hy hT
    rw [if_pos (by omega)] at hT
    refine vr_L_land_29 ?_
    rw [if_neg (by omega)]
    exact la_38 hW hH (by omega) (fun S' M' hT' => ih (y + 1) S' M' (by omega) hT') W 0 S M (by omega) hT
/-- the land: from a new object on -/
theorem cl_land (ho : sg_oo 0 S) (h0 : S 30 0 = 0) (hC : sg_CC S M) (hF : ∀ w h S' M', 2 ≤ w ∧ w ≤ 4 → 1 ≤ h ∧ h ≤ 3 → ll_I w h 201 M S' M' → F w M') : mv_Wp G 230 [.inr (.inr 1), .inr (.inr 0)] (mh l) M (mv_qi (mh l) F) := by
  refine vw_L_land (ll_cell rfl (by omega) (fun x1 => ll_pick (by omega) (fun x2 a1 a2 => ⟨by omega, ll_cell rfl (by omega) (fun x3 => ll_pick (by omega) (fun x4 b1 b2 => ⟨by omega, ?_⟩))⟩)))
  obtain ⟨W, eW⟩ := sg_nat (show 0 ≤ 2 + x2 by omega)
  obtain ⟨H, eH⟩ := sg_nat (show 0 ≤ 1 + x4 by omega)
  rw [eW, eH]
  refine la_29 (by omega) (by omega) (fun S' M' hI => hF _ _ S' M' (by omega) (by omega) hI) H 0 S M (by omega) ⟨ho, ⟨?_, fun p hp => ?_⟩, hC, sg_X_r⟩
  · rw [if_pos (by omega), Nat.zero_mul]
    exact h0
  · rw [if_pos (by omega), Nat.zero_mul] at hp
    omega
end LA
