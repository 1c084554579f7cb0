/-! THE WHOLE STATE: S 30, 31: the tape (how long, bytes), S 32, 33: the row, S 34: refusals, S 35 0: whether an image is kept, S 40 ..: the image -/
def sg_kp (S : mv_Mem) : mv_Mem := fun a i => S (40 + a) i
/-- what is so of the whole state behind c calls -/
def sg_oo (c : Nat) (S : mv_Mem) : Prop := sg_wf S ∧ (0 ≤ S 30 0 ∧ S 30 0 ≤ 60) ∧ (∀ i, 0 ≤ S 31 i ∧ S 31 i ≤ 255) ∧ (0 ≤ S 32 0 ∧ S 32 0 ≤ 48) ∧ (∀ i, i < 7 → 0 ≤ S 34 i ∧ S 34 i ≤ (c : Int)) ∧ (S 35 0 = 0 ∨ S 35 0 = 1) ∧ (S 35 0 = 1 → sg_wf (sg_kp S))
/-- the class's cells hold the whole state -/
def sg_CC (S M : mv_Mem) : Prop := sg_K S M ∧ M 2 1 = S 30 0 ∧ (∀ i : Nat, (i : Int) < S 30 0 → M 3 i = S 31 i) ∧ M 4 1 = S 32 0 ∧ (∀ i : Nat, (i : Int) < S 32 0 → M 5 i = S 33 i) ∧ (∀ i, i < 7 → M 87 i = S 34 i) ∧ M 1 8 = S 35 0 ∧ (S 35 0 = 1 → sg_C 37 (sg_kp S) M)
def sg_X (M M' : mv_Mem) : Prop := ∀ a i, a = 0 ∨ 88 ≤ a → M' a i = M a i
/-- what lies around the world of the class is as it was -/
def sg_Q (M M' : mv_Mem) : Prop := ∀ a i, (a ≤ 5 ∨ (44 ≤ a ∧ a ≤ 71) ∨ 87 ≤ a) → M' a i = M a i
def sg_no (S : mv_Mem) (r : Int) : mv_Mem := mv_up S 34 (-r).toNat (S 34 (-r).toNat + 1)
def sg_un (v lo hi : Int) : Int := if v < lo then -4 else if hi < v then -6 else 0
section OU
variable {S : mv_Mem} {G : mv_G} {l c : Nat} {M : mv_Mem} {F : Int → mv_Mem → Prop}
theorem sg_Q_X {M' : mv_Mem} (h : sg_Q M M') : sg_X M M' := fun a i ha => h a i (by omega)
theorem sg_Q_r : sg_Q M M := fun _ _ _ => rfl
theorem sg_Q_t {M' M'' : mv_Mem} (h : sg_Q M M') (h2 : sg_Q M' M'') : sg_Q M M'' := fun a i ha => (h2 a i ha).trans (h a i ha)
theorem sg_X_r : sg_X M M := fun _ _ _ => rfl
theorem sg_X_t {M' M'' : mv_Mem} (h : sg_X M M') (h2 : sg_X M' M'') : sg_X M M'' := fun a i ha => (h2 a i ha).trans (h a i ha)
theorem sg_CC_q {S' M' : mv_Mem} (h : sg_CC S M) (hq : sg_Q M M') (hs : ∀ a i, 30 ≤ a → S' a i = S a i) (hk : sg_K S' M') : sg_CC S' M' := by
  obtain ⟨-, h2, h3, h4, h5, h6, h7, h8⟩ := h
  have e : sg_kp S' = sg_kp S := by
    funext a i
    exact hs (40 + a) i (by omega)
  refine ⟨hk, ?_, fun i hi => ?_, ?_, fun i hi => ?_, fun i hi => ?_, ?_, fun hk => ?_⟩
  · rw [hq 2 1 (by omega), hs 30 0 (by omega)]
    exact h2
  · rw [hs 30 0 (by omega)] at hi
    rw [hq 3 i (by omega), hs 31 i (by omega)]
    exact h3 i hi
  · rw [hq 4 1 (by omega), hs 32 0 (by omega)]
    exact h4
  · rw [hs 32 0 (by omega)] at hi
    rw [hq 5 i (by omega), hs 33 i (by omega)]
    exact h5 i hi
  · rw [hq 87 i (by omega), hs 34 i (by omega)]
    exact h6 i hi
  · rw [hq 1 8 (by omega), hs 35 0 (by omega)]
    exact h7
  · rw [hs 35 0 (by omega)] at hk
    rw [e]
    exact sg_C_fr (h8 hk) (fun c d1 d2 i => hq c i (by omega))
theorem sg_K_0 (hC : sg_C 0 S M) (h6 : M 6 6 = 0) (h7 : M 6 7 = 0) : sg_K S M := ⟨hC, Or.inl h6, Or.inl h7, fun z => by omega, fun _ => h7, fun z => by omega⟩
theorem sg_K_1 (hC : sg_C 0 S M) (hZ : sg_Z S M) (h6 : M 6 6 = 1) (h7 : M 6 7 = 1) : sg_K S M := ⟨hC, Or.inr h6, Or.inr h7, fun _ => hZ.1, fun z => by omega, fun _ => hZ.2⟩
theorem sg_K_b (hC : sg_C 0 S M) (h6 : M 6 6 = 0 ∨ M 6 6 = 1) (hW : M 6 6 = 1 → sg_W S M) (h7 : M 6 7 = 0) : sg_K S M := ⟨hC, h6, Or.inl h7, hW, fun _ => h7, fun z => by omega⟩
/-- .. when the flags and tables stay -/
theorem sg_K_fr {M' : mv_Mem} (hK : sg_K S M) (h : ∀ a i, (6 ≤ a ∧ a ≤ 43) → M' a i = M a i) : sg_K S M' := by
  obtain ⟨k1, k2, k3, k4, k5, k6⟩ := hK
  have e6 := h 6 6 (by omega)
  have e7 := h 6 7 (by omega)
  refine ⟨sg_C_fr k1 (fun c d1 d2 i => h c i (by omega)), by rw [e6]; exact k2, by rw [e7]; exact k3, fun z => ?_, fun z => ?_, fun z => ?_⟩
  · rw [e6] at z
    exact sg_W_fr (k4 z) (fun c d1 d2 _ i => h c i (by omega))
  · rw [e6] at z
    rw [e7]
    exact k5 z
  · rw [e7] at z
    exact ⟨sg_Bd_fr (k6 z).1 (fun i => h 42 i (by omega)), sg_Tk_fr (k6 z).2 (fun i => h 43 i (by omega))⟩
theorem sg_CC_no (h : sg_CC S M) {r : Int} (hr : -6 ≤ r ∧ r ≤ -1) : sg_CC (sg_no S r) (mv_up M 87 (-r).toNat (M 87 (-r).toNat + 1)) ∧ sg_X M (mv_up M 87 (-r).toNat (M 87 (-r).toNat + 1)) := by
  obtain ⟨h1, h2, h3, h4, h5, h6, h7, h8⟩ := h
  have hx : ∀ a i, a ≠ 87 → (mv_up M 87 (-r).toNat (M 87 (-r).toNat + 1)) a i = M a i := fun a i ha => mv_up_c ha
  have hs : ∀ a i, a ≠ 34 → (sg_no S r) a i = S a i := fun a i ha => mv_up_c ha
  have hk : sg_K (sg_no S r) (mv_up M 87 (-r).toNat (M 87 (-r).toNat + 1)) := by
    have := sg_K_fr (M' := mv_up M 87 (-r).toNat (M 87 (-r).toNat + 1)) h1 (fun a i ha => hx a i (by omega))
    have eq : ∀ {P : mv_Mem → Prop}, True := fun {_} => trivial
    obtain ⟨k1, k2, k3, k4, k5, k6⟩ := this
    have ys : ∀ u n, sg_ys (sg_no S r) u n = sg_ys S u n := fun u n => sg_ys_u (by decide) n
    have mn : ∀ u, sg_mn (sg_no S r) u = sg_mn S u := fun u => sg_mn_u (by decide) (by decide)
    have bid : ∀ o k, sg_bid (sg_no S r) o k = sg_bid S o k := fun o k => by
      show sg_if (sg_cg S (o / 3) (sg_wo S o k)) (100 * (sg_yl S (o / 3) (S 1 k) * (S 16 o + sg_mn (sg_no S r) (o / 3)) - S 11 (o / 3) - S 13 (o / 3)) - sg_cr S (o / 3) (S 1 k) * sg_wo S o k) 0 = _
      rw [mn]
      rfl
    have gg : ∀ w k n, sg_g (sg_no S r) w k n = sg_g S w k n := fun w k n => by
      induction n with
      | zero => rfl
      | succ n ih =>
        show (if ((n % 3 : Nat) : Int) < S 0 2 ∧ (n : Int) ≠ w ∧ (sg_g (sg_no S r) w k n).2 < sg_bid (sg_no S r) n k then ((n : Int), sg_bid (sg_no S r) n k) else sg_g (sg_no S r) w k n) = (if ((n % 3 : Nat) : Int) < S 0 2 ∧ (n : Int) ≠ w ∧ (sg_g S w k n).2 < sg_bid S n k then ((n : Int), sg_bid S n k) else sg_g S w k n)
        rw [ih, bid]
    have tk : ∀ k, sg_tk (sg_no S r) k = sg_tk S k := fun k => by
      show (if S 4 k = 0 then (sg_g (sg_no S r) (-1) k (3 * (S 0 3).toNat)).1 else -1) = _
      rw [gg]
      rfl
    refine ⟨⟨k1.1, k1.2.1, k1.2.2.1, k1.2.2.2.1, k1.2.2.2.2.1, fun j hj => ?_, k1.2.2.2.2.2.2⟩, k2, k3, fun z => ?_, k5, fun z => ⟨fun o k z1 z2 z3 => ?_, fun k z1 => ?_⟩⟩
    · obtain ⟨q1, q2, q3, q4, q5, q6, q7, q8⟩ := k1.2.2.2.2.2.1 j hj
      refine ⟨q1, q2, q3, q4, q5, q6, q7, ?_⟩
      rw [ys]
      exact q8
    · exact k4 z
    · rw [bid]
      exact (k6 z).1 o k z1 z2 z3
    · rw [tk]
      exact (k6 z).2 k z1
  refine ⟨⟨hk, ?_, fun i hi => ?_, ?_, fun i hi => ?_, fun i hi => ?_, ?_, fun z => ?_⟩, fun a i ha => hx a i (by omega)⟩
  · rw [hx 2 1 (by decide)]
    exact h2
  · rw [hx 3 i (by decide)]
    exact h3 i hi
  · rw [hx 4 1 (by decide)]
    exact h4
  · rw [hx 5 i (by decide)]
    exact h5 i hi
  · unfold sg_no
    rw [← h6 (-r).toNat (by omega)]
    exact mv_up_sm (h6 i hi)
  · rw [hx 1 8 (by decide)]
    exact h7
  · have e : sg_kp (sg_no S r) = sg_kp S := by
      funext a i
      exact hs (40 + a) i (by omega)
    rw [e]
    exact sg_C_fr (h8 z) (fun c d1 d2 i => hx c i (by omega))
theorem sg_oo_s (h : sg_oo c S) : sg_oo (c + 1) S := ⟨h.1, h.2.1, h.2.2.1, h.2.2.2.1, fun i hi => by have := h.2.2.2.2.1 i hi; omega, h.2.2.2.2.2⟩
theorem sg_oo_no (h : sg_oo c S) {r : Int} (hr : -6 ≤ r ∧ r ≤ -1) : sg_oo (c + 1) (sg_no S r) := by
  obtain ⟨h1, h2, h3, h4, h5, h6, h7⟩ := h
  refine ⟨h1, h2, h3, h4, fun i hi => ?_, h6, h7⟩
  unfold sg_no
  have h8 := h5 (-r).toNat (by omega)
  by_cases q : i = (-r).toNat
  · rw [q, mv_up_s]
    omega
  · rw [mv_up_j q]
    have := h5 i hi
    omega
theorem cl_refuse (hS : sg_oo c S) (hc : c ≤ 100000) (h : sg_CC S M) {r : Int} (hr : -6 ≤ r ∧ r ≤ -1) (hF : ∀ M', sg_X M M' → sg_CC (sg_no S r) M' → F r M') : mv_Wp G 126 [.inr (.inr 1), .inl r] (mh l) M (mv_qi (mh l) F) := by
  refine vw_X11_refuse ?_
  have h6 := h.2.2.2.2.2.1 (-r).toNat (by omega)
  have h5 := hS.2.2.2.2.1 (-r).toNat (by omega)
  rw [if_neg (by omega), if_neg (by omega)]
  obtain ⟨a, b⟩ := sg_CC_no h hr
  exact ⟨by omega, by omega, by omega, by omega, mv_qi_i (hF _ b a)⟩
theorem cl_refuseLong (hS : sg_oo c S) (hc : c ≤ 100000) (h : sg_CC S M) {r : Int} (hr : -6 ≤ r ∧ r ≤ -1) (hF : ∀ M', sg_X M M' → sg_CC (sg_no S r) M' → F (4000000000000000000 - r) M') : mv_Wp G 127 [.inr (.inr 1), .inl r] (mh l) M (mv_ql (mh l) F) :=
  vw_X11_refuseLong (cl_refuse hS hc h hr (fun M' a b => ⟨by omega, mv_ql_i (hF M' a b)⟩))
theorem cl_unfit {v lo hi : Int} (h : F (sg_un v lo hi) M) : mv_Wp G 128 [.inl v, .inl lo, .inl hi] (mh l) M (mv_qi (mh l) F) := by
  refine vw_X11_unfit ?_
  unfold sg_un at h
  split
  · rw [if_neg (by omega)] at h
    split
    · rw [if_neg (by omega)] at h
      exact mv_qi_i h
    · rw [if_pos (by omega)] at h
      exact mv_qi_i h
  · rw [if_pos (by omega)] at h
    exact mv_qi_i h
theorem cl_isNoUse (hC : sg_C 0 S M) {u : Int} (h1 : ¬ (0 ≤ u ∧ u < S 0 3) → F 1 M) (h0 : 0 ≤ u ∧ u < S 0 3 → F 0 M) : mv_Wp G 129 [.inr (.inr 1), .inl u] (mh l) M (mv_qi (mh l) F) := by
  refine vw_X11_isNoUse ?_
  have c1 : M 17 0 = S 0 3 := hC.2.2.2.2.1.1
  rw [c1]
  split
  · exact ⟨by decide, mv_qi_i (h1 (by omega))⟩
  · split
    · exact ⟨by decide, mv_qi_i (h0 (by omega))⟩
    · exact ⟨by decide, mv_qi_i (h1 (by omega))⟩
theorem cl_isNoMarket (hC : sg_C 0 S M) {u : Int} (h1 : ¬ (0 ≤ u ∧ u < S 0 2) → F 1 M) (h0 : 0 ≤ u ∧ u < S 0 2 → F 0 M) : mv_Wp G 130 [.inr (.inr 1), .inl u] (mh l) M (mv_qi (mh l) F) := by
  refine vw_X11_isNoMarket ?_
  have c1 : M 8 4 = S 0 2 := hC.1.2.2.2.2
  rw [c1]
  split
  · exact ⟨by decide, mv_qi_i (h1 (by omega))⟩
  · split
    · exact ⟨by decide, mv_qi_i (h0 (by omega))⟩
    · exact ⟨by decide, mv_qi_i (h1 (by omega))⟩
theorem cl_settled (hw : sg_wf S) (h : sg_CC S M) {F : mv_Mem → Prop} (hF : ∀ M', sg_X M M' → sg_CC S M' → sg_C 0 S M' → sg_Z S M' → M' 6 6 = 1 → M' 6 7 = 1 → F M') : mv_Wp G 14 [.inr (.inr 6)] (mh l) M (mv_qv (mh l) F) := by
  refine cl_settle hw h.1 (fun M' f C Z f6 f7 => ?_)
  have hq : sg_Q M M' := fun a i ha => f a i (by omega) (by omega)
  exact hF M' (sg_Q_X hq) (sg_CC_q h hq (fun _ _ _ => rfl) (sg_K_1 C Z f6 f7)) C Z f6 f7
/-- a state that is the same in what the world is -/
def sg_sw (S S' : mv_Mem) : Prop := ∀ a i, a ≤ 23 → S' a i = S a i
theorem sg_sw_C {o : Nat} {S' : mv_Mem} (h : sg_sw S S') (hC : sg_C o S M) : sg_C o S' M := by
  have ys : ∀ u n, sg_ys S' u n = sg_ys S u n := fun u n => by
    induction n with
    | zero => rfl
    | succ n ih =>
      unfold sg_ys
      rw [ih, h 14 _ (by decide)]
  have ok : ∀ k, sg_ok S' k ↔ sg_ok S k := fun k => by
    unfold sg_ok
    rw [h 0 0 (by decide), h 0 1 (by decide)]
  have pl : ∀ k, sg_pl S' k = sg_pl S k := fun k => by
    unfold sg_pl
    rw [h 0 0 (by decide)]
  obtain ⟨⟨a1, a2, a3, a4, a5⟩, b, c, d, ⟨e1, e2⟩, f, g, hh, i, j⟩ := hC
  refine ⟨⟨?_, ?_, ?_, ?_, ?_⟩, fun k hk => ?_, fun m hk => ?_, fun m hk => ?_, ⟨?_, ?_⟩, fun m hk => ?_, fun m hk => ?_, fun m hk => ?_, ?_, fun p hk => ?_⟩
  · rw [h 0 0 (by decide)]; exact a1
  · rw [h 0 1 (by decide)]; exact a2
  · rw [h 0 0 (by decide), h 0 1 (by decide)]; exact a3
  · rw [h 0 6 (by decide)]; exact a4
  · rw [h 0 2 (by decide)]; exact a5
  · obtain ⟨q1, q2, q3, q4, q5, q6⟩ := b k ((ok k).1 hk)
    rw [pl, h 1 k (by decide), h 2 k (by decide), h 3 k (by decide), h 4 k (by decide)]
    exact ⟨q1, q2, q3, q4, q5, fun d hd => by rw [h 5 _ (by decide)]; exact q6 d hd⟩
  · rw [h 0 2 (by decide)] at hk
    rw [pl, h 7 m (by decide)]
    exact c m hk
  · rw [h 6 m (by decide)]
    exact d m hk
  · rw [h 0 3 (by decide)]; exact e1
  · rw [h 0 4 (by decide)]; exact e2
  · obtain ⟨q1, q2, q3, q4, q5, q6, q7, q8⟩ := f m hk
    rw [h 8 m (by decide), h 9 m (by decide), h 10 m (by decide), h 11 m (by decide), h 12 m (by decide), h 13 m (by decide), h 15 m (by decide), ys]
    exact ⟨q1, q2, q3, q4, q5, q6, q7, q8⟩
  · rw [h 16 m (by decide), h 19 m (by decide)]
    exact g m hk
  · rw [h 17 m (by decide), h 18 m (by decide)]
    exact hh m hk
  · rw [h 0 5 (by decide)]; exact i
  · rw [h 0 5 (by decide)] at hk
    rw [pl, h 20 p (by decide), h 21 p (by decide), h 22 p (by decide), h 23 p (by decide)]
    exact j p hk
theorem sg_sw_wf {S' : mv_Mem} (h : sg_sw S S') (hw : sg_wf S) : sg_wf S' := by
  have e : ∀ a, a ≤ 23 → S' a = S a := fun a ha => funext fun i => h a i ha
  have ok : ∀ k, sg_ok S' k ↔ sg_ok S k := fun k => by
    unfold sg_ok
    rw [e 0 (by decide)]
  have has : ∀ k d, sg_has S' k d ↔ sg_has S k d := fun k d => by
    unfold sg_has
    rw [e 0 (by decide)]
  obtain ⟨h1, ⟨a1, a2, a3, a4, a5, a6⟩, h3, h4, ⟨b1, b2, b3, b4, b5, b6, b7, b8⟩, ⟨c1, c2, c3, c4⟩, h7, h8, h9, h10⟩ := hw
  unfold sg_wf sg_B
  simp only [ok, has, e 0 (by decide), e 1 (by decide), e 2 (by decide), e 3 (by decide), e 4 (by decide), e 5 (by decide), e 6 (by decide), e 7 (by decide), e 8 (by decide), e 9 (by decide), e 10 (by decide), e 11 (by decide), e 12 (by decide), e 13 (by decide), e 14 (by decide), e 15 (by decide), e 16 (by decide), e 17 (by decide), e 18 (by decide), e 19 (by decide), e 20 (by decide), e 21 (by decide), e 22 (by decide), e 23 (by decide)]
  exact ⟨h1, ⟨a1, a2, a3, a4, a5, a6⟩, h3, h4, ⟨b1, b2, b3, b4, b5, b6, b7, b8⟩, ⟨c1, c2, c3, c4⟩, h7, h8, h9, h10⟩
end OU
