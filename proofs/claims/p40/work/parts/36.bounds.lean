/-! WHAT IS SO OF EVERY STATE STAYS SO -/
section SO
variable {S : mv_Mem} {c : Nat}
theorem sg_dir_y (hw : sg_wf S) {k k' d : Nat} (hk : sg_ok S k) (hk' : sg_ok S k') (hd : d < 4) (h : sg_dir k k' = (d : Int)) : sg_has S k d ∧ sg_nx k d = k' := by
  have h1 := (sg_pb_dir hw hk hk' hd).2 h
  by_cases hh : sg_has S k d
  · obtain ⟨e, ho⟩ := sg_pb_yes hw hk hh hd
    exact ⟨hh, sg_pl_inj hw ho hk' (by omega)⟩
  · rw [sg_pb_no hh] at h1
    omega
theorem sg_B_up {a n i : Nat} {lo hi v : Int} (h : sg_B S a n lo hi) (hv : lo ≤ v ∧ v ≤ hi) : sg_B (mv_up S a i v) a n lo hi := by
  intro j hj
  by_cases q : j = i
  · rw [q, mv_up_s]
    exact hv
  · rw [mv_up_j q]
    exact h j hj
theorem sg_oo_w {S' : mv_Mem} (h : sg_oo c S) (hw : sg_wf S') (hs : ∀ a i, 30 ≤ a → S' a i = S a i) : sg_oo (c + 1) S' := by
  obtain ⟨-, h2, h3, h4, h5, h6, h7⟩ := sg_oo_s h
  have e : sg_kp S' = sg_kp S := by
    funext a i
    exact hs (40 + a) i (by omega)
  refine ⟨hw, by rw [hs 30 0 (by decide)]; exact h2, fun i => by rw [hs 31 i (by decide)]; exact h3 i, by rw [hs 32 0 (by decide)]; exact h4, fun i hi => by rw [hs 34 i (by decide)]; exact h5 i hi, by rw [hs 35 0 (by decide)]; exact h6, fun z => ?_⟩
  rw [hs 35 0 (by decide)] at z
  rw [e]
  exact h7 z
theorem so_acre (h : sg_oo c S) {a b : Int} : sg_oo (c + 1) (sa_acre S a b).2 := by
  unfold sa_acre
  repeat' split
  all_goals first | exact sg_oo_s h | exact sg_oo_no h (by decide)
theorem so_goes (h : sg_oo c S) {a b : Int} : sg_oo (c + 1) (sa_goes S a b).2 := by
  unfold sa_goes
  by_cases q1 : sg_ac S a < 0
  · rw [if_pos q1]
    exact sg_oo_no h (by decide)
  · rw [if_neg q1]
    by_cases q2 : b < 0 ∨ 1 < b
    · rw [if_pos q2]
      exact sg_oo_no h (by decide)
    · rw [if_neg q2]
      exact sg_oo_s h
theorem so_rent (h : sg_oo c S) {a : Int} : sg_oo (c + 1) (sa_rent S a).2 := by
  unfold sa_rent
  repeat' split
  all_goals first | exact sg_oo_s h | exact sg_oo_no h (by decide)
theorem so_falls (h : sg_oo c S) {a v : Int} : sg_oo (c + 1) (sa_falls S a v).2 := by
  unfold sa_falls
  split
  · exact sg_oo_no h (by decide)
  · split
    · rename_i z
      exact sg_oo_no h (sg_un_r z)
    · exact sg_oo_s h
theorem so_hold (h : sg_oo c S) {a : Int} : sg_oo (c + 1) (sa_hold S a).2 := by
  unfold sa_hold
  split
  · rename_i z
    exact sg_oo_no h (sg_un_r z)
  · exact sg_oo_s h
theorem so_count (h : sg_oo c S) {a : Int} : sg_oo (c + 1) (sa_count S a).2 := sg_oo_s h
theorem so_feed (h : sg_oo c S) {a b : Int} : sg_oo (c + 1) (sa_feed S a b).2 := by
  unfold sa_feed
  by_cases q1 : a < 1
  · rw [if_pos q1]
    exact sg_oo_no h (by decide)
  rw [if_neg q1]
  by_cases q2 : 8 < a ∨ 60 < S 30 0 + a
  · rw [if_pos q2]
    exact sg_oo_no h (by decide)
  rw [if_neg q2]
  obtain ⟨h1, h2, h3, h4, h5, h6, h7⟩ := sg_oo_s h
  have hsw : sg_sw S (fun d i => if d = 30 ∧ i = 0 then S 30 0 + a else if d = 31 ∧ (S 30 0).toNat ≤ i ∧ i < (S 30 0).toNat + a.toNat then sg_by b (i - (S 30 0).toNat) else S d i) := fun d i ha => by
    show (if d = 30 ∧ i = 0 then _ else if d = 31 ∧ _ then _ else S d i) = S d i
    rw [if_neg (by omega), if_neg (fun z => by omega)]
  have e : sg_kp (fun d i => if d = 30 ∧ i = 0 then S 30 0 + a else if d = 31 ∧ (S 30 0).toNat ≤ i ∧ i < (S 30 0).toNat + a.toNat then sg_by b (i - (S 30 0).toNat) else S d i) = sg_kp S := by
    funext d i
    show (if 40 + d = 30 ∧ i = 0 then _ else if 40 + d = 31 ∧ _ then _ else S (40 + d) i) = S (40 + d) i
    rw [if_neg (by omega), if_neg (fun z => by omega)]
  refine ⟨sg_sw_wf hsw h1, ?_, fun i => ?_, h4, h5, h6, fun z => ?_⟩
  · show 0 ≤ S 30 0 + a ∧ S 30 0 + a ≤ 60
    omega
  · show 0 ≤ (if 31 = 30 ∧ i = 0 then S 30 0 + a else if 31 = 31 ∧ (S 30 0).toNat ≤ i ∧ i < (S 30 0).toNat + a.toNat then sg_by b (i - (S 30 0).toNat) else S 31 i) ∧ (if 31 = 30 ∧ i = 0 then S 30 0 + a else if 31 = 31 ∧ (S 30 0).toNat ≤ i ∧ i < (S 30 0).toNat + a.toNat then sg_by b (i - (S 30 0).toNat) else S 31 i) ≤ 255
    rw [if_neg (fun z => by omega)]
    split
    · unfold sg_by
      omega
    · exact h3 i
  · dsimp only
    rw [e]
    exact h7 z
theorem so_read (h : sg_oo c S) : sg_oo (c + 1) (sa_read S).2 := by
  obtain ⟨h1, h2, h3, h4, h5, h6, h7⟩ := sg_oo_s h
  unfold sa_read
  rcases sg_prs_c (S 31) (S 30 0).toNat with ⟨j, j1, j2⟩ | ⟨W, H, e, ht⟩
  · rw [j2]
    dsimp only
    rw [if_neg (by omega)]
    have hsw : sg_sw S (mv_up S 30 0 0) := fun b i hb => mv_up_c (by omega)
    have hkp : sg_kp (mv_up S 30 0 0) = sg_kp S := sg_kp_up (by decide)
    refine ⟨sg_sw_wf hsw h1, ?_, h3, h4, h5, h6, fun z => ?_⟩
    · dsimp only
      rw [mv_up_s]
      decide
    · dsimp only
      rw [hkp]
      exact h7 z
  · rw [e]
    dsimp only
    rw [if_pos rfl, Int.toNat_natCast, Int.toNat_natCast]
    have w := sg_wf_rd h1 ht
    have hsw : sg_sw (sg_rdS S (S 31) W H) (mv_up (sg_rdS S (S 31) W H) 30 0 0) := fun b i hb => mv_up_c (by omega)
    have hkp : sg_kp (mv_up (sg_rdS S (S 31) W H) 30 0 0) = sg_kp S := by
      rw [sg_kp_up (by decide)]
      funext a i
      show sg_rdS S (S 31) W H (40 + a) i = S (40 + a) i
      unfold sg_rdS
      rw [if_neg (by omega), if_neg (by omega), if_neg (by omega), if_neg (by omega)]
    refine ⟨sg_sw_wf hsw w, ?_, h3, h4, h5, h6, fun z => ?_⟩
    · dsimp only
      rw [mv_up_s]
      decide
    · have z : S 35 0 = 1 := z
      dsimp only
      rw [hkp]
      exact h7 z
theorem so_road (h : sg_oo c S) {a b e : Int} (he : 1 ≤ e) : sg_oo (c + 1) (sa_road S a b e).2 := by
  have hw := h.1
  have hr12 := hw.1.2.2.2.2.2.2
  unfold sa_road
  by_cases q1 : sg_ac S a < 0 ∨ sg_ac S b < 0 ∨ sg_dir (sg_ac S a).toNat (sg_ac S b).toNat = -1
  · rw [if_pos q1]
    exact sg_oo_no h (by decide)
  rw [if_neg q1]
  by_cases q2 : e < 0 ∨ 3 < e
  · rw [if_pos q2]
    exact sg_oo_no h (by decide)
  rw [if_neg q2]
  by_cases q3 : sg_ra S (sg_ac S a).toNat (sg_dir (sg_ac S a).toNat (sg_ac S b).toNat).toNat = 0 ∧ e ≠ 0 ∧ 12 ≤ S 0 6
  · rw [if_pos q3]
    exact sg_oo_no h (by decide)
  rw [if_neg q3]
  obtain ⟨k1, -, -⟩ := sg_ac_ok hw (xy := a) (by omega)
  obtain ⟨k2, -, -⟩ := sg_ac_ok hw (xy := b) (by omega)
  generalize (sg_ac S a).toNat = k at *
  generalize (sg_ac S b).toNat = k' at *
  have dr := sg_dir_r k k'
  obtain ⟨d, ed⟩ := sg_nat (show 0 ≤ sg_dir k k' by omega)
  have hd : d < 4 := by omega
  obtain ⟨hh, hn⟩ := sg_dir_y hw k1 k2 hd ed
  rw [ed, Int.toNat_natCast] at q3 ⊢
  have wl := sg_wf_lay hw k1 hd hh (c := e) (by omega)
  refine sg_oo_w h ?_ (fun a i ha => (mv_up_c (by omega)).trans (sg_lay_o (by omega)))
  have num : 0 ≤ S 0 6 + ((if e = 0 then 0 else 1) - (if sg_ra S k d = 0 then 0 else 1)) ∧ S 0 6 + ((if e = 0 then 0 else 1) - (if sg_ra S k d = 0 then 0 else 1)) ≤ 12 := by
    by_cases y1 : sg_ra S k d = 0
    · rw [if_pos y1]
      by_cases y2 : e = 0
      · rw [if_pos y2]
        omega
      · rw [if_neg y2]
        have : ¬ 12 ≤ S 0 6 := fun y3 => q3 ⟨y1, y2, y3⟩
        omega
    · rw [if_neg y1]
      split <;> omega
  obtain ⟨⟨w1, w2, w3, w4, w5, w6, w7⟩, wr⟩ := wl
  exact ⟨⟨w1, w2, w3, w4, w5, w6, by dsimp only; rw [mv_up_s]; exact num⟩, wr⟩
theorem so_toll (h : sg_oo c S) {a v : Int} : sg_oo (c + 1) (sa_toll S a v).2 := by
  unfold sa_toll
  by_cases q1 : sg_ac S a < 0
  · rw [if_pos q1]
    exact sg_oo_no h (by decide)
  rw [if_neg q1]
  by_cases q2 : sg_un v 0 99 ≠ 0
  · rw [if_pos q2]
    exact sg_oo_no h (sg_un_r q2)
  rw [if_neg q2]
  obtain ⟨h1, ⟨a1, a2, a3, a4, a5, a6⟩, h3⟩ := h.1
  have hv := sg_un_0 (Classical.byContradiction q2)
  exact sg_oo_w h ⟨h1, ⟨a1, sg_B_up a2 hv, a3, a4, a5, a6⟩, h3⟩ (fun a i ha => mv_up_c (by omega))
theorem sg_mo_no {k : Nat} : ∀ (n m : Nat), sg_mo S k n m = -9 → ∀ j, m ≤ j → j < m + n → S 7 j ≠ (k : Int)
  | 0, m, _, j, h1, h2 => by omega
  | n + 1, m, h, j, h1, h2 => by
    unfold sg_mo at h
    by_cases q : S 7 m = (k : Int)
    · rw [if_pos q] at h
      omega
    · rw [if_neg q] at h
      by_cases e : j = m
      · rw [e]
        exact q
      · exact sg_mo_no n (m + 1) h j (by omega) (by omega)
theorem so_market (h : sg_oo c S) {a : Int} : sg_oo (c + 1) (sa_market S a).2 := by
  have hw := h.1
  unfold sa_market
  by_cases q1 : sg_ac S a < 0
  · rw [if_pos q1]
    exact sg_oo_no h (by decide)
  rw [if_neg q1]
  by_cases q2 : sg_on S (sg_ac S a).toNat ≠ -9
  · rw [if_pos q2]
    exact sg_oo_no h (by decide)
  rw [if_neg q2]
  by_cases q3 : 3 ≤ S 0 2
  · rw [if_pos q3]
    exact sg_oo_no h (by decide)
  rw [if_neg q3]
  obtain ⟨k1, k2, -⟩ := sg_ac_ok hw (xy := a) (by omega)
  have hno := sg_mo_no (S := S) (k := (sg_ac S a).toNat) (S 0 2).toNat 0 (Classical.byContradiction q2)
  obtain ⟨⟨w1, w2, w3, w4, w5, w6, w7⟩, h2, h3, h4, hr⟩ := hw
  refine sg_oo_w h ⟨⟨w1, w2, ?_, w4, w5, w6, w7⟩, h2, fun m hm => ?_, fun m m' hm hm' he => ?_, hr⟩ (fun a i ha => (mv_up_c (by omega)).trans (mv_up_c (by omega)))
  · dsimp only
    rw [mv_up_s]
    omega
  · have hm : (m : Int) < S 0 2 + 1 := hm
    show 0 ≤ mv_up S 7 (S 0 2).toNat (sg_ac S a) 7 m ∧ mv_up S 7 (S 0 2).toNat (sg_ac S a) 7 m < 48 ∧ sg_ok S (mv_up S 7 (S 0 2).toNat (sg_ac S a) 7 m).toNat
    by_cases e : m = (S 0 2).toNat
    · rw [e, mv_up_s]
      exact ⟨by omega, by omega, k1⟩
    · rw [mv_up_j e]
      exact h3 m (by omega)
  · have hm : (m : Int) < S 0 2 + 1 := hm
    have hm' : (m' : Int) < S 0 2 + 1 := hm'
    have he : mv_up S 7 (S 0 2).toNat (sg_ac S a) 7 m = mv_up S 7 (S 0 2).toNat (sg_ac S a) 7 m' := he
    by_cases e : m = (S 0 2).toNat
    · by_cases e' : m' = (S 0 2).toNat
      · omega
      · rw [e, mv_up_s, mv_up_j e'] at he
        exact absurd (show S 7 m' = ((sg_ac S a).toNat : Int) by omega) (hno m' (by omega) (by omega))
    · by_cases e' : m' = (S 0 2).toNat
      · rw [e', mv_up_s, mv_up_j e] at he
        exact absurd (show S 7 m = ((sg_ac S a).toNat : Int) by omega) (hno m (by omega) (by omega))
      · rw [mv_up_j e, mv_up_j e'] at he
        exact h4 m m' (by omega) (by omega) he
theorem so_use (h : sg_oo c S) {a b d e f : Int} : sg_oo (c + 1) (sa_use S a b d e f).2 := by
  have hw := h.1
  unfold sa_use
  by_cases q1 : a < 0 ∨ 5 < a
  · rw [if_pos q1]
    exact sg_oo_no h (by decide)
  rw [if_neg q1]
  by_cases q2 : b < 0 ∨ d < 0 ∨ e < 0 ∨ f < 0
  · rw [if_pos q2]
    exact sg_oo_no h (by decide)
  rw [if_neg q2]
  by_cases q3 : 99 < b ∨ 99 < d ∨ 9999 < e ∨ 99 < f ∨ 6 ≤ S 0 3
  · rw [if_pos q3]
    exact sg_oo_no h (by decide)
  rw [if_neg q3]
  obtain ⟨⟨w1, w2, w3, w4, w5, w6, w7⟩, h2, h3, h4, ⟨b1, b2, b3, b4, b5, b6, b7, b8⟩, h6, h7, h8, h9, h10⟩ := hw
  refine sg_oo_w h ⟨⟨w1, w2, w3, ?_, w5, w6, w7⟩, h2, h3, h4, ⟨sg_B_up (S := S) b1 (by omega), sg_B_up (S := S) b2 (by omega), sg_B_up (S := S) b3 (by omega), sg_B_up (S := S) b4 (by omega), sg_B_up (S := S) b5 (by omega), b6, b7, b8⟩, h6, h7, h8, fun u hu hk => ?_, fun u hu1 hu2 => ?_⟩ (fun a i ha => by dsimp only; rw [mv_up_c (by omega), mv_up_c (by omega), mv_up_c (by omega), mv_up_c (by omega), mv_up_c (by omega), mv_up_c (by omega)])
  · dsimp only
    rw [mv_up_s]
    omega
  · have hk : mv_up S 8 (S 0 3).toNat a 8 u ≠ 3 := hk
    show S 15 u = 0
    by_cases z : u = (S 0 3).toNat
    · exact (h10 u (by omega) hu).2
    · rw [mv_up_j z] at hk
      exact h9 u hu hk
  · have hu1 : S 0 3 + 1 ≤ (u : Int) := hu1
    exact h10 u (by omega) hu2
theorem so_year (h : sg_oo c S) {a v : Int} : sg_oo (c + 1) (sa_year S a v).2 := by
  have hw := h.1
  unfold sa_year
  by_cases q1 : ¬ (0 ≤ a ∧ a < S 0 3)
  · rw [if_pos q1]
    exact sg_oo_no h (by decide)
  rw [if_neg q1]
  by_cases q2 : S 8 a.toNat ≠ 3
  · rw [if_pos q2]
    exact sg_oo_no h (by decide)
  rw [if_neg q2]
  by_cases q3 : v < -99
  · rw [if_pos q3]
    exact sg_oo_no h (by decide)
  rw [if_neg q3]
  by_cases q4 : 99 < v ∨ 6 ≤ S 15 a.toNat
  · rw [if_pos q4]
    exact sg_oo_no h (by decide)
  rw [if_neg q4]
  have hu := sg_nu hw
  obtain ⟨h1, h2, h3, h4, ⟨b1, b2, b3, b4, b5, b6, b7, b8⟩, h6, h7, h8, h9, h10⟩ := hw
  have hb := b8 a.toNat (by omega)
  refine sg_oo_w h ⟨h1, h2, h3, h4, ⟨b1, b2, b3, b4, b5, b6, sg_B_up (S := S) b7 (by omega), sg_B_up (S := S) b8 (by omega)⟩, h6, h7, h8, fun u hu hk => ?_, fun u hu1 hu2 => ?_⟩ (fun a i ha => (mv_up_c (by omega)).trans (mv_up_c (by omega)))
  · have hk : S 8 u ≠ 3 := hk
    dsimp only
    have e : u ≠ a.toNat := fun z => q2 (by rw [← z]; exact hk)
    rw [mv_up_j e, mv_up_c (by decide)]
    exact h9 u hu hk
  · have hu1 : S 0 3 ≤ (u : Int) := hu1
    dsimp only
    rw [mv_up_j (show u ≠ a.toNat by omega), mv_up_c (by decide), mv_up_c (by decide), mv_up_c (by decide)]
    exact h10 u hu1 hu2
theorem so_price (h : sg_oo c S) {a b v : Int} : sg_oo (c + 1) (sa_price S a b v).2 := by
  unfold sa_price sg_ip
  split
  · exact sg_oo_no h (by decide)
  · by_cases q2 : sg_un v 0 999 ≠ 0
    · rw [if_pos q2]
      exact sg_oo_no h (sg_un_r q2)
    · rw [if_neg q2]
      exact sg_oo_w h (sg_wf_16 h.1 (sg_un_0 (Classical.byContradiction q2))) (fun a i ha => mv_up_c (by omega))
theorem so_tax (h : sg_oo c S) {a v : Int} : sg_oo (c + 1) (sa_tax S a v).2 := by
  unfold sa_tax
  by_cases q : a = -1
  · rw [if_pos q]
    by_cases q2 : sg_un v 0 100 ≠ 0
    · rw [if_pos q2]
      exact sg_oo_no h (sg_un_r q2)
    · rw [if_neg q2]
      have hv := sg_un_0 (Classical.byContradiction q2)
      obtain ⟨⟨w1, w2, w3, w4, w5, w6, w7⟩, hr⟩ := h.1
      exact sg_oo_w h ⟨⟨w1, w2, w3, w4, by dsimp only; rw [mv_up_s]; exact hv, w6, w7⟩, hr⟩ (fun a i ha => mv_up_c (by omega))
  · rw [if_neg q]
    by_cases q1 : ¬ (0 ≤ a ∧ a < S 0 3)
    · rw [if_pos q1]
      exact sg_oo_no h (by decide)
    rw [if_neg q1]
    by_cases q2 : sg_un v 0 9999 ≠ 0
    · rw [if_pos q2]
      exact sg_oo_no h (sg_un_r q2)
    · rw [if_neg q2]
      exact sg_oo_w h (sg_wf_13 h.1 (by omega) (sg_un_0 (Classical.byContradiction q2))) (fun a i ha => mv_up_c (by omega))
theorem so_piece (h : sg_oo c S) {a b d e : Int} : sg_oo (c + 1) (sa_piece S a b d e).2 := by
  have hw := h.1
  have hu := sg_nu hw
  have hm3 := hw.1.2.2.1
  unfold sa_piece sg_ip
  split
  · exact sg_oo_no h (by decide)
  · rename_i q
    by_cases q1 : d < 0 ∨ e < 0
    · rw [if_pos q1]
      exact sg_oo_no h (by decide)
    rw [if_neg q1]
    by_cases q2 : 9999 < d ∨ 999 < e ∨ 6 ≤ S 19 (sg_of a b)
    · rw [if_pos q2]
      exact sg_oo_no h (by decide)
    rw [if_neg q2]
    have nn : sg_nu2 S a b := Classical.byContradiction q
    have ho : sg_of a b < 18 := by
      unfold sg_nu2 at nn
      unfold sg_of
      omega
    obtain ⟨h1, h2, h3, h4, h5, ⟨b1, b2, b3, b4⟩, hr⟩ := hw
    have hb := b4 (sg_of a b) ho
    exact sg_oo_w h ⟨h1, h2, h3, h4, h5, ⟨b1, sg_B_up (S := S) b2 (by omega), sg_B_up (S := S) b3 (by omega), sg_B_up (S := S) b4 (by omega)⟩, hr⟩ (fun a i ha => by dsimp only; rw [mv_up_c (by omega), mv_up_c (by omega), mv_up_c (by omega)])
theorem sg_rn_wf : ∀ (n : Nat) (S : mv_Mem), sg_wf S → sg_wf (sg_rn S n).1
  | 0, S, hw => hw
  | n + 1, S, hw => by
    unfold sg_rn
    split
    · exact sg_rd_wf hw
    · exact sg_rn_wf n _ (sg_rd_wf hw)
theorem so_rounds (h : sg_oo c S) {a : Int} : sg_oo (c + 1) (sa_rounds S a).2 := by
  unfold sa_rounds
  by_cases q2 : sg_un a 1 20 ≠ 0
  · rw [if_pos q2]
    exact sg_oo_no h (sg_un_r q2)
  · rw [if_neg q2]
    exact sg_oo_w h (sg_rn_wf _ S h.1) (fun b i hb => sg_rn_pq a.toNat S b i (by omega))
theorem so_own (h : sg_oo c S) {a b : Int} : sg_oo (c + 1) (sa_own S a b).2 := by
  unfold sa_own
  by_cases q1 : sg_ac S a < 0
  · rw [if_pos q1]
    exact sg_oo_no h (by decide)
  rw [if_neg q1]
  by_cases q2 : sg_un b (-1) 3 ≠ 0
  · rw [if_pos q2]
    exact sg_oo_no h (sg_un_r q2)
  rw [if_neg q2]
  split
  · exact sg_oo_s h
  · obtain ⟨h1, ⟨a1, a2, a3, a4, a5, a6⟩, h3⟩ := h.1
    have hv := sg_un_0 (Classical.byContradiction q2)
    exact sg_oo_w h ⟨h1, ⟨a1, a2, sg_B_up a3 hv, a4, a5, a6⟩, h3⟩ (fun a i ha => mv_up_c (by omega))
theorem so_held (h : sg_oo c S) {a b : Int} : sg_oo (c + 1) (sa_held S a b).2 := by
  unfold sa_held
  by_cases q1 : sg_ac S a < 0
  · rw [if_pos q1]
    exact sg_oo_no h (by decide)
  rw [if_neg q1]
  by_cases q2 : S 4 (sg_ac S a).toNat = (if b = 0 then 0 else 1)
  · rw [if_pos q2]
    exact sg_oo_s h
  · rw [if_neg q2]
    exact sg_oo_w h (sg_wf_4 h.1 (by split <;> omega)) (fun a i ha => mv_up_c (by omega))
theorem so_image (h : sg_oo c S) : sg_oo (c + 1) (sa_image S).2 := by
  unfold sa_image
  obtain ⟨h1, h2, h3, h4, h5, h6, h7⟩ := sg_oo_s h
  have hsw : sg_sw S (fun a i => if a = 35 ∧ i = 0 then 1 else if 40 ≤ a ∧ a ≤ 63 then S (a - 40) i else S a i) := fun a i ha => by
    show (if a = 35 ∧ i = 0 then (1 : Int) else if 40 ≤ a ∧ a ≤ 63 then S (a - 40) i else S a i) = S a i
    rw [if_neg (by omega), if_neg (by omega)]
  have hkp : sg_sw S (sg_kp (fun a i => if a = 35 ∧ i = 0 then 1 else if 40 ≤ a ∧ a ≤ 63 then S (a - 40) i else S a i)) := fun a i ha => by
    show (if 40 + a = 35 ∧ i = 0 then (1 : Int) else if 40 ≤ 40 + a ∧ 40 + a ≤ 63 then S (40 + a - 40) i else S (40 + a) i) = S a i
    rw [if_neg (by omega), if_pos (by omega), show 40 + a - 40 = a by omega]
  exact ⟨sg_sw_wf hsw h1, h2, h3, h4, h5, Or.inr rfl, fun _ => sg_sw_wf hkp h1⟩
theorem so_on (h : sg_oo c S) : sg_oo (c + 1) (sa_on S).2 := by
  unfold sa_on
  by_cases q : S 35 0 = 0
  · rw [if_pos q]
    exact sg_oo_no h (by decide)
  · rw [if_neg q]
    obtain ⟨h1, h2, h3, h4, h5, h6, h7⟩ := sg_oo_s h
    have hsw : sg_sw (sg_kp S) (fun a i => if a ≤ 23 then S (40 + a) i else S a i) := fun a i ha => by
      show (if a ≤ 23 then S (40 + a) i else S a i) = S (40 + a) i
      rw [if_pos ha]
    have w := h7 (by omega)
    exact sg_oo_w h (sg_sw_wf hsw w) (fun a i ha => if_neg (by omega))
end SO
