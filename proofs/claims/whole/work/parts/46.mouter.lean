/-! THE MODEL's WHOLE STATE -/
/-- the rows of an image: cell, where it begins, how long -/
def sg_Lk : List (Nat × Nat × Nat) := [(91, 0, 48), (92, 48, 48), (93, 96, 48), (96, 144, 20), (97, 164, 20), (98, 184, 20), (99, 204, 4), (103, 208, 3), (105, 211, 6), (106, 217, 6), (107, 223, 6), (108, 229, 6), (109, 235, 6), (110, 241, 6), (111, 247, 36), (112, 283, 6), (113, 289, 18), (114, 307, 108), (115, 415, 108), (116, 523, 18), (125, 541, 8), (126, 549, 8), (127, 557, 8), (128, 565, 8), (95, 580, 48)]
/-- the numbers of an image: slot of cell 88, place -/
def sg_Lz : List (Nat × Nat) := [(8, 573), (9, 574), (17, 575), (23, 576), (36, 577), (37, 578), (55, 579)]
/-- an image N in the row of the image -/
def sg_Ke (N M : mv_Mem) : Prop := (∀ q, q ∈ sg_Lk → ∀ i, i < q.2.2 → M 136 (q.2.1 + i) = N q.1 i) ∧ ∀ q, q ∈ sg_Lz → M 136 q.2 = N 88 q.1
def sg_Ki (K M : mv_Mem) : Prop := ∃ N, sg_Mo K N ∧ sg_Rl K N (K 0 6).toNat ∧ sg_Ke N M
/-- the model's cells hold the whole state -/
def sg_MM (S M : mv_Mem) : Prop := sg_Mo S M ∧ sg_Rl S M (S 0 6).toNat ∧ M 88 7 = S 30 0 ∧ (∀ i : Nat, (i : Int) < S 30 0 → M 90 i = S 31 i) ∧ M 88 60 = S 32 0 ∧ (∀ i : Nat, (i : Int) < S 32 0 → M 135 i = S 33 i) ∧ (∀ i, i < 7 → M 89 i = S 34 i) ∧ M 88 62 = S 35 0 ∧ (S 35 0 = 1 → sg_Ki (sg_kp S) M)
def sg_Y (M M' : mv_Mem) : Prop := ∀ a i, a ≤ 87 → M' a i = M a i
/-- what lies around the world of the model is as it was -/
def sg_P (M M' : mv_Mem) : Prop := ∀ a i, (a ≤ 90 ∧ a ≠ 88) ∨ (a = 88 ∧ (i = 7 ∨ i = 60 ∨ i = 62)) ∨ 135 ≤ a → M' a i = M a i
section MO
variable {S : mv_Mem} {G : mv_G} {l c : Nat} {M : mv_Mem} {F : Int → mv_Mem → Prop}
theorem sg_Y_r : sg_Y M M := fun _ _ _ => rfl
theorem sg_Y_t {M' M'' : mv_Mem} (h : sg_Y M M') (h2 : sg_Y M' M'') : sg_Y M M'' := fun a i ha => (h2 a i ha).trans (h a i ha)
theorem sg_P_Y {M' : mv_Mem} (h : sg_P M M') : sg_Y M M' := fun a i ha => h a i (by omega)
theorem sg_P_r : sg_P M M := fun _ _ _ => rfl
theorem sg_P_t {M' M'' : mv_Mem} (h : sg_P M M') (h2 : sg_P M' M'') : sg_P M M'' := fun a i ha => (h2 a i ha).trans (h a i ha)
theorem sg_Ki_fr {K M' : mv_Mem} (h : sg_Ki K M) (hm : ∀ i, M' 136 i = M 136 i) : sg_Ki K M' := by
  obtain ⟨N, h1, h2, h3, h4⟩ := h
  exact ⟨N, h1, h2, fun q hq i hi => (hm _).trans (h3 q hq i hi), fun q hq => (hm _).trans (h4 q hq)⟩
theorem sg_MM_q {S' M' : mv_Mem} (h : sg_MM S M) (hq : sg_P M M') (hs : ∀ a i, 30 ≤ a → S' a i = S a i) (ho : sg_Mo S' M') (hr : sg_Rl S' M' (S' 0 6).toNat) : sg_MM S' M' := by
  obtain ⟨-, -, h2, h3, h4, h5, h6, h7, h8⟩ := h
  have e : sg_kp S' = sg_kp S := by
    funext a i
    exact hs (40 + a) i (by omega)
  refine ⟨ho, hr, ?_, fun i hi => ?_, ?_, fun i hi => ?_, fun i hi => ?_, ?_, fun hk => ?_⟩
  · rw [hq 88 7 (by omega), hs 30 0 (by omega)]
    exact h2
  · rw [hs 30 0 (by omega)] at hi
    rw [hq 90 i (by omega), hs 31 i (by omega)]
    exact h3 i hi
  · rw [hq 88 60 (by omega), hs 32 0 (by omega)]
    exact h4
  · rw [hs 32 0 (by omega)] at hi
    rw [hq 135 i (by omega), hs 33 i (by omega)]
    exact h5 i hi
  · rw [hq 89 i (by omega), hs 34 i (by omega)]
    exact h6 i hi
  · rw [hq 88 62 (by omega), hs 35 0 (by omega)]
    exact h7
  · rw [hs 35 0 (by omega)] at hk
    rw [e]
    exact sg_Ki_fr (h8 hk) (fun i => hq 136 i (by omega))
theorem sg_sw_Mo {S' : mv_Mem} (h : sg_sw S S') (hM : sg_Mo S M) : sg_Mo S' M := by
  have e : ∀ a, a ≤ 23 → S' a = S a := fun a ha => funext fun i => h a i ha
  have ok : ∀ k, sg_ok S' k ↔ sg_ok S k := fun k => by
    unfold sg_ok
    rw [e 0 (by decide)]
  unfold sg_Mo at hM ⊢
  simp only [ok, e 0 (by decide), e 1 (by decide), e 2 (by decide), e 3 (by decide), e 4 (by decide), e 5 (by decide), e 6 (by decide), e 7 (by decide), e 8 (by decide), e 9 (by decide), e 10 (by decide), e 11 (by decide), e 12 (by decide), e 13 (by decide), e 14 (by decide), e 15 (by decide), e 16 (by decide), e 17 (by decide), e 18 (by decide), e 19 (by decide), e 20 (by decide), e 21 (by decide), e 22 (by decide), e 23 (by decide)]
  exact hM
theorem sg_sw_Rl {S' : mv_Mem} {n : Nat} (h : sg_sw S S') (hR : sg_Rl S M n) : sg_Rl S' M n := sg_Rl_c (fun i => h 0 i (by decide)) (fun i => h 5 i (by decide)) hR
theorem md_no (hS : sg_oo c S) (hc : c ≤ 100000) (h : sg_MM S M) {r : Int} (hr : -6 ≤ r ∧ r ≤ -1) (hF : ∀ M', sg_Y M M' → sg_MM (sg_no S r) M' → F r M') : mv_Wp G 133 [.inr (.inr 88), .inl r] (mh l) M (mv_qi (mh l) F) := by
  refine vw_X12_no ?_
  have h6 := h.2.2.2.2.2.2.1 (-r).toNat (by omega)
  have h5 := hS.2.2.2.2.1 (-r).toNat (by omega)
  have hx : ∀ a i, a ≠ 89 → (mv_up M 89 (-r).toNat (M 89 (-r).toNat + 1)) a i = M a i := fun a i ha => mv_up_c ha
  refine ⟨by omega, by omega, by omega, by omega, mv_qi_i (hF _ (fun a i ha => hx a i (by omega)) ?_)⟩
  obtain ⟨h1, h1b, h2, h3, h4, h5', h6', h7, h8⟩ := h
  have hsw : sg_sw S (sg_no S r) := fun a i ha => mv_up_c (by omega)
  have hkp : sg_kp (sg_no S r) = sg_kp S := sg_kp_up (by decide)
  refine ⟨sg_sw_Mo hsw (sg_Mo_fr h1 (fun a i ha => hx a i (by unfold sg_mc at ha; omega))), sg_sw_Rl hsw (sg_Rl_fr h1b (hx 88 17 (by decide)) (fun a i a1 a2 => hx a i (by omega))), h2, h3, h4, h5', fun i hi => ?_, h7, fun z => ?_⟩
  · unfold sg_no
    rw [← h6]
    exact mv_up_sm (h6' i hi)
  · rw [hkp]
    exact sg_Ki_fr (h8 z) (fun i => hx 136 i (by decide))
theorem md_noLong (hS : sg_oo c S) (hc : c ≤ 100000) (h : sg_MM S M) {r : Int} (hr : -6 ≤ r ∧ r ≤ -1) (hF : ∀ M', sg_Y M M' → sg_MM (sg_no S r) M' → F (4000000000000000000 - r) M') : mv_Wp G 134 [.inr (.inr 88), .inl r] (mh l) M (mv_ql (mh l) F) := by
  refine vw_X12_noLong ?_
  have h6 := h.2.2.2.2.2.2.1 (-r).toNat (by omega)
  have h5 := hS.2.2.2.2.1 (-r).toNat (by omega)
  have hx : ∀ a i, a ≠ 89 → (mv_up M 89 (-r).toNat (M 89 (-r).toNat + 1)) a i = M a i := fun a i ha => mv_up_c ha
  refine ⟨by omega, by omega, by omega, by omega, by omega, mv_ql_i (hF _ (fun a i ha => hx a i (by omega)) ?_)⟩
  obtain ⟨h1, h1b, h2, h3, h4, h5', h6', h7, h8⟩ := h
  have hsw : sg_sw S (sg_no S r) := fun a i ha => mv_up_c (by omega)
  have hkp : sg_kp (sg_no S r) = sg_kp S := sg_kp_up (by decide)
  refine ⟨sg_sw_Mo hsw (sg_Mo_fr h1 (fun a i ha => hx a i (by unfold sg_mc at ha; omega))), sg_sw_Rl hsw (sg_Rl_fr h1b (hx 88 17 (by decide)) (fun a i a1 a2 => hx a i (by omega))), h2, h3, h4, h5', fun i hi => ?_, h7, fun z => ?_⟩
  · unfold sg_no
    rw [← h6]
    exact mv_up_sm (h6' i hi)
  · rw [hkp]
    exact sg_Ki_fr (h8 z) (fun i => hx 136 i (by decide))
/-- a finding changes nothing that counts -/
theorem sg_MM_fq {M' : mv_Mem} (h : sg_MM S M) (hf : ∀ a i, a ≠ 94 → a ≠ 100 → a ≠ 104 → ¬ (117 ≤ a ∧ a ≤ 119) → ¬ (132 ≤ a ∧ a ≤ 134) → M' a i = M a i) : sg_MM S M' :=
  sg_MM_q h (fun a i ha => hf a i (by omega) (by omega) (by omega) (by omega) (by omega)) (fun _ _ _ => rfl) (sg_Mo_fr h.1 (fun a i ha => hf a i (by unfold sg_mc at ha; omega) (by unfold sg_mc at ha; omega) (by unfold sg_mc at ha; omega) (by unfold sg_mc at ha; omega) (by unfold sg_mc at ha; omega))) (sg_Rl_fr h.2.1 (hf 88 17 (by decide) (by decide) (by decide) (by decide) (by decide)) (fun a i a1 a2 => hf a i (by omega) (by omega) (by omega) (by omega) (by omega)))
theorem md_found (hS : sg_oo c S) (h : sg_MM S M) {F : mv_Mem → Prop} (hF : ∀ M', sg_Y M M' → sg_MM S M' → sg_MW S M' → sg_Fd S M' → F M') : mv_Wp G 173 [.inr (.inr 88)] (mh l) M (mv_qv (mh l) F) :=
  md_finds hS.1 h.1 h.2.1 (fun M' f w d => hF M' (fun a i ha => f a i (by omega) (by omega) (by omega)) (sg_MM_fq h (fun a i _ a1 a2 a3 _ => f a i a1 a2 a3)) w d)
theorem md_no2 (hS : sg_oo c S) (hc : c ≤ 100000) (h : sg_MM S M) (r : Int) (hr : -6 ≤ r ∧ r ≤ -1) (hf : ∀ M', sg_Y M M' → sg_MM (sg_no S r) M' → F r M') : mv_Wp G 133 [.inr (.inr 88), .inl r] (mh l) M (mv_qi (mh l) fun x M' => mv_qi (mh l) F (some (.inl x)) (mh l) M') := md_no hS hc h hr (fun M' a b => mv_qi_i (hf M' a b))
theorem md_noL2 (hS : sg_oo c S) (hc : c ≤ 100000) (h : sg_MM S M) (r : Int) (hr : -6 ≤ r ∧ r ≤ -1) (hf : ∀ M', sg_Y M M' → sg_MM (sg_no S r) M' → F (4000000000000000000 - r) M') : mv_Wp G 134 [.inr (.inr 88), .inl r] (mh l) M (mv_ql (mh l) fun x M' => mv_ql (mh l) F (some (.inr (.inl x))) (mh l) M') := md_noLong hS hc h hr (fun M' a b => mv_ql_i (hf M' a b))
/-! the first calls -/
theorem ma_acre (hS : sg_oo c S) (hc : c ≤ 100000) (h : sg_MM S M) {a b : Int} (ha : mv_R32 a) (hF : ∀ M', sg_Y M M' → sg_MM (sa_acre S a b).2 M' → F (sa_acre S a b).1 M') : mv_Wp G 145 [.inr (.inr 88), .inl a, .inl b] (mh l) M (mv_qi (mh l) F) := by
  have hw := hS.1
  have hM := h.1
  unfold sa_acre at hF
  refine vw_X12_acre (md_acreOf hw hM ha (fun q => ?_) (fun k hk k48 e => ?_))
  · rw [if_pos q] at hF
    rw [if_neg (by decide)]
    exact md_no2 hS hc h _ (by decide) hF
  · obtain ⟨q1, q2, q3, q4⟩ := hM.2.1 k hk
    have h4 := hw.2.1.2.2.2.1 k k48
    rw [if_neg (by omega), e, Int.toNat_natCast] at hF
    rw [if_pos (by omega), Int.toNat_natCast, q1, q2, q3, q4]
    by_cases z0 : b = 0
    · rw [if_pos z0] at hF
      rw [if_pos z0]
      exact ⟨by omega, mv_qi_i (hF M sg_Y_r h)⟩
    rw [if_neg z0] at hF
    rw [if_neg z0]
    by_cases z1 : b = 1
    · rw [if_pos z1] at hF
      rw [if_pos (by omega)]
      exact ⟨by omega, mv_qi_i (hF M sg_Y_r h)⟩
    rw [if_neg z1] at hF
    rw [if_neg (by omega)]
    by_cases z2 : b = 2
    · rw [if_pos z2] at hF
      rw [if_pos (by omega)]
      refine ⟨by omega, ?_⟩
      have hh := hF M sg_Y_r h
      dsimp only at hh
      split
      · rename_i y
        rw [y] at hh
        exact mv_qi_i hh
      · rename_i y
        rw [show S 4 k = 1 by omega] at hh
        exact mv_qi_i hh
    rw [if_neg z2] at hF
    rw [if_neg (by omega)]
    by_cases z3 : b = 3
    · rw [if_pos z3] at hF
      rw [if_pos (by omega)]
      exact ⟨by omega, mv_qi_i (hF M sg_Y_r h)⟩
    rw [if_neg z3] at hF
    rw [if_neg (by omega)]
    by_cases z4 : b = 4
    · rw [if_pos z4] at hF
      rw [if_pos (by omega)]
      exact md_marketOn hw hM (mv_qi_i (hF M sg_Y_r h))
    rw [if_neg z4] at hF
    rw [if_neg (by omega)]
    exact md_no2 hS hc h _ (by decide) hF
end MO
