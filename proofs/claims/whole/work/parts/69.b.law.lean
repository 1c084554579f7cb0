/-! THE LAW's CASES (by program: wip/whole/lawgen.py) -/
/-- the law's bond: the state, the class's cells, the model's cells, the script -/
def lw_I (X : Nat → Int) (c : Nat) (S M : mv_Mem) : Prop := sg_oo c S ∧ sg_CC S M ∧ sg_MM S M ∧ ∀ j, M 0 j = X j
theorem lw_MX {S M M' : mv_Mem} (h : sg_MM S M) (x : sg_X M M') : sg_MM S M' := by
  obtain ⟨h1, h2, h3, h4, h5, h6, h7, h8, h9⟩ := h
  have f : ∀ a i, 88 ≤ a → M' a i = M a i := fun a i ha => x a i (Or.inr ha)
  exact ⟨sg_Mo_fr h1 (fun a i ha => f a i (by unfold sg_mc at ha; omega)), sg_Rl_fr h2 (f _ _ (by decide)) (fun a i h h' => f a i (by omega)), (f _ _ (by decide)).trans h3, fun i hi => (f _ _ (by decide)).trans (h4 i hi), (f _ _ (by decide)).trans h5, fun i hi => (f _ _ (by decide)).trans (h6 i hi), fun i hi => (f _ _ (by decide)).trans (h7 i hi), (f _ _ (by decide)).trans h8, fun z => sg_Ki_fr (h9 z) (fun i => f _ _ (by decide))⟩
theorem lw_CY {S M M' : mv_Mem} (h : sg_CC S M) (y : sg_Y M M') : sg_CC S M' := by
  obtain ⟨h1, h2, h3, h4, h5, h6, h7, h8⟩ := h
  exact ⟨sg_K_fr h1 (fun a i ha => y a i (by omega)), (y _ _ (by decide)).trans h2, fun i hi => (y _ _ (by decide)).trans (h3 i hi), (y _ _ (by decide)).trans h4, fun i hi => (y _ _ (by decide)).trans (h5 i hi), fun i hi => (y _ _ (by decide)).trans (h6 i hi), (y _ _ (by decide)).trans h7, fun z => sg_C_fr (h8 z) (fun a _ ha i => y a i (by omega))⟩
theorem lw_r64 (x y : Int) : mv_R64 (mv_lor x y) := mv_r64 _
theorem lw_ite {P A B : Prop} [Decidable P] (h1 : A) (h2 : B) : if P then A else B := by
  split
  · exact h1
  · exact h2
section LAW
variable {G : mv_G} {l c : Nat} {S M : mv_Mem} {post : Option mv_V → mv_SH → mv_Mem → Prop} {X : Nat → Int} {i : Int}
theorem lc_feed (hI : lw_I X c S M) (hc : c ≤ 100000) (hX : ∀ j, mv_R32 (X j)) (hi : 0 ≤ i) (hil : i + 6 ≤ (l : Int)) (hl : l ≤ 100000) (hn : ∀ S M, lw_I X (c + 1) S M → mv_Run G 226 0 0 1387 [(0, .inr (.inr 0)), (1, .inr (.inr 1)), (2, .inr (.inr 88)), (3, .inl i)] [] (mh l) M post) : mv_Run G 226 0 0 196 [(0, .inr (.inr 0)), (1, .inr (.inr 1)), (2, .inr (.inr 88)), (3, .inl i)] [] (mh l) M post := by
  obtain ⟨hS, hC, hM, h0⟩ := hI
  refine vl_196 ?_
  simp only [h0]
  refine ⟨⟨by omega, by omega⟩, ⟨by omega, by omega⟩, ⟨by omega, by omega⟩, ⟨by omega, by omega⟩, ⟨by omega, by omega⟩, ⟨by omega, by omega⟩, ca_feed hS hc hC (hX _) (lw_r64 _ _) (fun M1 x1 C1 => ?_)⟩
  have f0 : ∀ j, M1 0 j = X j := fun j => (x1 0 j (Or.inl rfl)).trans (h0 j)
  simp only [f0]
  refine ⟨⟨by omega, by omega⟩, ⟨by omega, by omega⟩, ⟨by omega, by omega⟩, ⟨by omega, by omega⟩, ⟨by omega, by omega⟩, ⟨by omega, by omega⟩, ma_feed hS hc (lw_MX hM x1) (hX _) (lw_r64 _ _) (fun M2 y2 D2 => ?_)⟩
  rw [if_pos rfl]
  exact hn _ _ ⟨so_feed hS, lw_CY C1 y2, D2, fun j => (y2 0 j (by decide)).trans (f0 j)⟩
theorem lc_read (hI : lw_I X c S M) (hc : c ≤ 100000) (hX : ∀ j, mv_R32 (X j)) (hi : 0 ≤ i) (hil : i + 6 ≤ (l : Int)) (hl : l ≤ 100000) (hn : ∀ S M, lw_I X (c + 1) S M → mv_Run G 226 0 0 1387 [(0, .inr (.inr 0)), (1, .inr (.inr 1)), (2, .inr (.inr 88)), (3, .inl i)] [] (mh l) M post) : mv_Run G 226 0 0 259 [(0, .inr (.inr 0)), (1, .inr (.inr 1)), (2, .inr (.inr 88)), (3, .inl i)] [] (mh l) M post := by
  obtain ⟨hS, hC, hM, h0⟩ := hI
  refine vl_259 ?_
  refine ca_read hS hC (fun M1 x1 C1 => ?_)
  have f0 : ∀ j, M1 0 j = X j := fun j => (x1 0 j (Or.inl rfl)).trans (h0 j)
  refine ma_read hS (lw_MX hM x1) (fun M2 y2 D2 => ?_)
  rw [if_pos rfl]
  exact hn _ _ ⟨so_read hS, lw_CY C1 y2, D2, fun j => (y2 0 j (by decide)).trans (f0 j)⟩
theorem lc_acre (hI : lw_I X c S M) (hc : c ≤ 100000) (hX : ∀ j, mv_R32 (X j)) (hi : 0 ≤ i) (hil : i + 6 ≤ (l : Int)) (hl : l ≤ 100000) (hn : ∀ S M, lw_I X (c + 1) S M → mv_Run G 226 0 0 1387 [(0, .inr (.inr 0)), (1, .inr (.inr 1)), (2, .inr (.inr 88)), (3, .inl i)] [] (mh l) M post) : mv_Run G 226 0 0 272 [(0, .inr (.inr 0)), (1, .inr (.inr 1)), (2, .inr (.inr 88)), (3, .inl i)] [] (mh l) M post := by
  obtain ⟨hS, hC, hM, h0⟩ := hI
  refine vl_272 ?_
  simp only [h0]
  refine ⟨⟨by omega, by omega⟩, ⟨by omega, by omega⟩, ⟨by omega, by omega⟩, ⟨by omega, by omega⟩, ca_acre hS hc hC (hX _) (fun M1 x1 C1 => ?_)⟩
  have f0 : ∀ j, M1 0 j = X j := fun j => (x1 0 j (Or.inl rfl)).trans (h0 j)
  simp only [f0]
  refine ⟨⟨by omega, by omega⟩, ⟨by omega, by omega⟩, ⟨by omega, by omega⟩, ⟨by omega, by omega⟩, ma_acre hS hc (lw_MX hM x1) (hX _) (fun M2 y2 D2 => ?_)⟩
  rw [if_pos rfl]
  exact hn _ _ ⟨so_acre hS, lw_CY C1 y2, D2, fun j => (y2 0 j (by decide)).trans (f0 j)⟩
theorem lc_road (hI : lw_I X c S M) (hc : c ≤ 100000) (hX : ∀ j, mv_R32 (X j)) (hi : 0 ≤ i) (hil : i + 6 ≤ (l : Int)) (hl : l ≤ 100000) (hn : ∀ S M, lw_I X (c + 1) S M → mv_Run G 226 0 0 1387 [(0, .inr (.inr 0)), (1, .inr (.inr 1)), (2, .inr (.inr 88)), (3, .inl i)] [] (mh l) M post) : mv_Run G 226 0 0 305 [(0, .inr (.inr 0)), (1, .inr (.inr 1)), (2, .inr (.inr 88)), (3, .inl i)] [] (mh l) M post := by
  obtain ⟨hS, hC, hM, h0⟩ := hI
  refine vl_305 ?_
  simp only [h0]
  refine ⟨⟨by omega, by omega⟩, ⟨by omega, by omega⟩, ⟨by omega, by omega⟩, ⟨by omega, by omega⟩, ⟨by omega, by omega⟩, ⟨by omega, by omega⟩, ca_road hS hc hC (hX _) (hX _) (fun M1 x1 C1 => ?_)⟩
  have f0 : ∀ j, M1 0 j = X j := fun j => (x1 0 j (Or.inl rfl)).trans (h0 j)
  simp only [f0]
  refine ⟨⟨by omega, by omega⟩, ⟨by omega, by omega⟩, ⟨by omega, by omega⟩, ⟨by omega, by omega⟩, ⟨by omega, by omega⟩, ⟨by omega, by omega⟩, ma_road hS hc (lw_MX hM x1) (hX _) (hX _) (fun M2 y2 D2 => ?_)⟩
  rw [if_pos rfl]
  exact hn _ _ ⟨so_road hS hM, lw_CY C1 y2, D2, fun j => (y2 0 j (by decide)).trans (f0 j)⟩
theorem lc_step (hI : lw_I X c S M) (hc : c ≤ 100000) (hX : ∀ j, mv_R32 (X j)) (hi : 0 ≤ i) (hil : i + 6 ≤ (l : Int)) (hl : l ≤ 100000) (hn : ∀ S M, lw_I X (c + 1) S M → mv_Run G 226 0 0 1387 [(0, .inr (.inr 0)), (1, .inr (.inr 1)), (2, .inr (.inr 88)), (3, .inl i)] [] (mh l) M post) : mv_Run G 226 0 0 348 [(0, .inr (.inr 0)), (1, .inr (.inr 1)), (2, .inr (.inr 88)), (3, .inl i)] [] (mh l) M post := by
  obtain ⟨hS, hC, hM, h0⟩ := hI
  refine vl_348 ?_
  simp only [h0]
  refine ⟨⟨by omega, by omega⟩, ⟨by omega, by omega⟩, ⟨by omega, by omega⟩, ⟨by omega, by omega⟩, ca_step hS hc hC (fun M1 x1 C1 => ?_)⟩
  have f0 : ∀ j, M1 0 j = X j := fun j => (x1 0 j (Or.inl rfl)).trans (h0 j)
  simp only [f0]
  refine ⟨⟨by omega, by omega⟩, ⟨by omega, by omega⟩, ⟨by omega, by omega⟩, ⟨by omega, by omega⟩, ma_step hS hc (lw_MX hM x1) (fun M2 y2 D2 => ?_)⟩
  rw [if_pos rfl]
  exact hn _ _ ⟨so_step hS, lw_CY C1 y2, D2, fun j => (y2 0 j (by decide)).trans (f0 j)⟩
theorem lc_toll (hI : lw_I X c S M) (hc : c ≤ 100000) (hX : ∀ j, mv_R32 (X j)) (hi : 0 ≤ i) (hil : i + 6 ≤ (l : Int)) (hl : l ≤ 100000) (hn : ∀ S M, lw_I X (c + 1) S M → mv_Run G 226 0 0 1387 [(0, .inr (.inr 0)), (1, .inr (.inr 1)), (2, .inr (.inr 88)), (3, .inl i)] [] (mh l) M post) : mv_Run G 226 0 0 381 [(0, .inr (.inr 0)), (1, .inr (.inr 1)), (2, .inr (.inr 88)), (3, .inl i)] [] (mh l) M post := by
  obtain ⟨hS, hC, hM, h0⟩ := hI
  refine vl_381 ?_
  simp only [h0]
  refine ⟨⟨by omega, by omega⟩, ⟨by omega, by omega⟩, ⟨by omega, by omega⟩, ⟨by omega, by omega⟩, ca_toll hS hc hC (hX _) (fun M1 x1 C1 => ?_)⟩
  have f0 : ∀ j, M1 0 j = X j := fun j => (x1 0 j (Or.inl rfl)).trans (h0 j)
  simp only [f0]
  refine ⟨⟨by omega, by omega⟩, ⟨by omega, by omega⟩, ⟨by omega, by omega⟩, ⟨by omega, by omega⟩, ma_toll hS hc (lw_MX hM x1) (hX _) (fun M2 y2 D2 => ?_)⟩
  rw [if_pos rfl]
  exact hn _ _ ⟨so_toll hS, lw_CY C1 y2, D2, fun j => (y2 0 j (by decide)).trans (f0 j)⟩
theorem lc_way (hI : lw_I X c S M) (hc : c ≤ 100000) (hX : ∀ j, mv_R32 (X j)) (hi : 0 ≤ i) (hil : i + 6 ≤ (l : Int)) (hl : l ≤ 100000) (hn : ∀ S M, lw_I X (c + 1) S M → mv_Run G 226 0 0 1387 [(0, .inr (.inr 0)), (1, .inr (.inr 1)), (2, .inr (.inr 88)), (3, .inl i)] [] (mh l) M post) : mv_Run G 226 0 0 414 [(0, .inr (.inr 0)), (1, .inr (.inr 1)), (2, .inr (.inr 88)), (3, .inl i)] [] (mh l) M post := by
  obtain ⟨hS, hC, hM, h0⟩ := hI
  refine vl_414 ?_
  simp only [h0]
  refine ⟨⟨by omega, by omega⟩, ⟨by omega, by omega⟩, ⟨by omega, by omega⟩, ⟨by omega, by omega⟩, ca_way hS hc hC (hX _) (hX _) (fun M1 x1 C1 => ?_)⟩
  have f0 : ∀ j, M1 0 j = X j := fun j => (x1 0 j (Or.inl rfl)).trans (h0 j)
  simp only [f0]
  refine ⟨⟨by omega, by omega⟩, ⟨by omega, by omega⟩, ⟨by omega, by omega⟩, ⟨by omega, by omega⟩, ma_way hS hc (lw_MX hM x1) (hX _) (hX _) (fun M2 y2 D2 => ?_)⟩
  rw [if_pos rfl]
  exact hn _ _ ⟨so_way hS, lw_CY C1 y2, D2, fun j => (y2 0 j (by decide)).trans (f0 j)⟩
theorem lc_market (hI : lw_I X c S M) (hc : c ≤ 100000) (hX : ∀ j, mv_R32 (X j)) (hi : 0 ≤ i) (hil : i + 6 ≤ (l : Int)) (hl : l ≤ 100000) (hn : ∀ S M, lw_I X (c + 1) S M → mv_Run G 226 0 0 1387 [(0, .inr (.inr 0)), (1, .inr (.inr 1)), (2, .inr (.inr 88)), (3, .inl i)] [] (mh l) M post) : mv_Run G 226 0 0 447 [(0, .inr (.inr 0)), (1, .inr (.inr 1)), (2, .inr (.inr 88)), (3, .inl i)] [] (mh l) M post := by
  obtain ⟨hS, hC, hM, h0⟩ := hI
  refine vl_447 ?_
  simp only [h0]
  refine ⟨⟨by omega, by omega⟩, ⟨by omega, by omega⟩, ca_market hS hc hC (hX _) (fun M1 x1 C1 => ?_)⟩
  have f0 : ∀ j, M1 0 j = X j := fun j => (x1 0 j (Or.inl rfl)).trans (h0 j)
  simp only [f0]
  refine ⟨⟨by omega, by omega⟩, ⟨by omega, by omega⟩, ma_market hS hc (lw_MX hM x1) (hX _) (fun M2 y2 D2 => ?_)⟩
  rw [if_pos rfl]
  exact hn _ _ ⟨so_market hS, lw_CY C1 y2, D2, fun j => (y2 0 j (by decide)).trans (f0 j)⟩
theorem lc_use (hI : lw_I X c S M) (hc : c ≤ 100000) (hX : ∀ j, mv_R32 (X j)) (hi : 0 ≤ i) (hil : i + 6 ≤ (l : Int)) (hl : l ≤ 100000) (hn : ∀ S M, lw_I X (c + 1) S M → mv_Run G 226 0 0 1387 [(0, .inr (.inr 0)), (1, .inr (.inr 1)), (2, .inr (.inr 88)), (3, .inl i)] [] (mh l) M post) : mv_Run G 226 0 0 470 [(0, .inr (.inr 0)), (1, .inr (.inr 1)), (2, .inr (.inr 88)), (3, .inl i)] [] (mh l) M post := by
  obtain ⟨hS, hC, hM, h0⟩ := hI
  refine vl_470 ?_
  simp only [h0]
  refine ⟨⟨by omega, by omega⟩, ⟨by omega, by omega⟩, ⟨by omega, by omega⟩, ⟨by omega, by omega⟩, ⟨by omega, by omega⟩, ⟨by omega, by omega⟩, ⟨by omega, by omega⟩, ⟨by omega, by omega⟩, ⟨by omega, by omega⟩, ⟨by omega, by omega⟩, ca_use hS hc hC (fun M1 x1 C1 => ?_)⟩
  have f0 : ∀ j, M1 0 j = X j := fun j => (x1 0 j (Or.inl rfl)).trans (h0 j)
  simp only [f0]
  refine ⟨⟨by omega, by omega⟩, ⟨by omega, by omega⟩, ⟨by omega, by omega⟩, ⟨by omega, by omega⟩, ⟨by omega, by omega⟩, ⟨by omega, by omega⟩, ⟨by omega, by omega⟩, ⟨by omega, by omega⟩, ⟨by omega, by omega⟩, ⟨by omega, by omega⟩, ma_use hS hc (lw_MX hM x1) (fun M2 y2 D2 => ?_)⟩
  rw [if_pos rfl]
  exact hn _ _ ⟨so_use hS, lw_CY C1 y2, D2, fun j => (y2 0 j (by decide)).trans (f0 j)⟩
theorem lc_year (hI : lw_I X c S M) (hc : c ≤ 100000) (hX : ∀ j, mv_R32 (X j)) (hi : 0 ≤ i) (hil : i + 6 ≤ (l : Int)) (hl : l ≤ 100000) (hn : ∀ S M, lw_I X (c + 1) S M → mv_Run G 226 0 0 1387 [(0, .inr (.inr 0)), (1, .inr (.inr 1)), (2, .inr (.inr 88)), (3, .inl i)] [] (mh l) M post) : mv_Run G 226 0 0 533 [(0, .inr (.inr 0)), (1, .inr (.inr 1)), (2, .inr (.inr 88)), (3, .inl i)] [] (mh l) M post := by
  obtain ⟨hS, hC, hM, h0⟩ := hI
  refine vl_533 ?_
  simp only [h0]
  refine ⟨⟨by omega, by omega⟩, ⟨by omega, by omega⟩, ⟨by omega, by omega⟩, ⟨by omega, by omega⟩, ca_year hS hc hC (fun M1 x1 C1 => ?_)⟩
  have f0 : ∀ j, M1 0 j = X j := fun j => (x1 0 j (Or.inl rfl)).trans (h0 j)
  simp only [f0]
  refine ⟨⟨by omega, by omega⟩, ⟨by omega, by omega⟩, ⟨by omega, by omega⟩, ⟨by omega, by omega⟩, ma_year hS hc (lw_MX hM x1) (fun M2 y2 D2 => ?_)⟩
  rw [if_pos rfl]
  exact hn _ _ ⟨so_year hS, lw_CY C1 y2, D2, fun j => (y2 0 j (by decide)).trans (f0 j)⟩
theorem lc_price (hI : lw_I X c S M) (hc : c ≤ 100000) (hX : ∀ j, mv_R32 (X j)) (hi : 0 ≤ i) (hil : i + 6 ≤ (l : Int)) (hl : l ≤ 100000) (hn : ∀ S M, lw_I X (c + 1) S M → mv_Run G 226 0 0 1387 [(0, .inr (.inr 0)), (1, .inr (.inr 1)), (2, .inr (.inr 88)), (3, .inl i)] [] (mh l) M post) : mv_Run G 226 0 0 566 [(0, .inr (.inr 0)), (1, .inr (.inr 1)), (2, .inr (.inr 88)), (3, .inl i)] [] (mh l) M post := by
  obtain ⟨hS, hC, hM, h0⟩ := hI
  refine vl_566 ?_
  simp only [h0]
  refine ⟨⟨by omega, by omega⟩, ⟨by omega, by omega⟩, ⟨by omega, by omega⟩, ⟨by omega, by omega⟩, ⟨by omega, by omega⟩, ⟨by omega, by omega⟩, ca_price hS hc hC (fun M1 x1 C1 => ?_)⟩
  have f0 : ∀ j, M1 0 j = X j := fun j => (x1 0 j (Or.inl rfl)).trans (h0 j)
  simp only [f0]
  refine ⟨⟨by omega, by omega⟩, ⟨by omega, by omega⟩, ⟨by omega, by omega⟩, ⟨by omega, by omega⟩, ⟨by omega, by omega⟩, ⟨by omega, by omega⟩, ma_price hS hc (lw_MX hM x1) (fun M2 y2 D2 => ?_)⟩
  rw [if_pos rfl]
  exact hn _ _ ⟨so_price hS, lw_CY C1 y2, D2, fun j => (y2 0 j (by decide)).trans (f0 j)⟩
theorem lc_tax (hI : lw_I X c S M) (hc : c ≤ 100000) (hX : ∀ j, mv_R32 (X j)) (hi : 0 ≤ i) (hil : i + 6 ≤ (l : Int)) (hl : l ≤ 100000) (hn : ∀ S M, lw_I X (c + 1) S M → mv_Run G 226 0 0 1387 [(0, .inr (.inr 0)), (1, .inr (.inr 1)), (2, .inr (.inr 88)), (3, .inl i)] [] (mh l) M post) : mv_Run G 226 0 0 609 [(0, .inr (.inr 0)), (1, .inr (.inr 1)), (2, .inr (.inr 88)), (3, .inl i)] [] (mh l) M post := by
  obtain ⟨hS, hC, hM, h0⟩ := hI
  refine vl_609 ?_
  simp only [h0]
  refine ⟨⟨by omega, by omega⟩, ⟨by omega, by omega⟩, ⟨by omega, by omega⟩, ⟨by omega, by omega⟩, ca_tax hS hc hC (fun M1 x1 C1 => ?_)⟩
  have f0 : ∀ j, M1 0 j = X j := fun j => (x1 0 j (Or.inl rfl)).trans (h0 j)
  simp only [f0]
  refine ⟨⟨by omega, by omega⟩, ⟨by omega, by omega⟩, ⟨by omega, by omega⟩, ⟨by omega, by omega⟩, ma_tax hS hc (lw_MX hM x1) (fun M2 y2 D2 => ?_)⟩
  rw [if_pos rfl]
  exact hn _ _ ⟨so_tax hS, lw_CY C1 y2, D2, fun j => (y2 0 j (by decide)).trans (f0 j)⟩
theorem lc_bid (hI : lw_I X c S M) (hc : c ≤ 100000) (hX : ∀ j, mv_R32 (X j)) (hi : 0 ≤ i) (hil : i + 6 ≤ (l : Int)) (hl : l ≤ 100000) (hn : ∀ S M, lw_I X (c + 1) S M → mv_Run G 226 0 0 1387 [(0, .inr (.inr 0)), (1, .inr (.inr 1)), (2, .inr (.inr 88)), (3, .inl i)] [] (mh l) M post) : mv_Run G 226 0 0 642 [(0, .inr (.inr 0)), (1, .inr (.inr 1)), (2, .inr (.inr 88)), (3, .inl i)] [] (mh l) M post := by
  obtain ⟨hS, hC, hM, h0⟩ := hI
  refine vl_642 ?_
  simp only [h0]
  refine ⟨⟨by omega, by omega⟩, ⟨by omega, by omega⟩, ⟨by omega, by omega⟩, ⟨by omega, by omega⟩, ⟨by omega, by omega⟩, ⟨by omega, by omega⟩, ca_bid hS hc hC (hX _) (fun M1 x1 C1 => ?_)⟩
  have f0 : ∀ j, M1 0 j = X j := fun j => (x1 0 j (Or.inl rfl)).trans (h0 j)
  simp only [f0]
  refine ⟨⟨by omega, by omega⟩, ⟨by omega, by omega⟩, ⟨by omega, by omega⟩, ⟨by omega, by omega⟩, ⟨by omega, by omega⟩, ⟨by omega, by omega⟩, ma_bid hS hc (lw_MX hM x1) (hX _) (fun M2 y2 D2 => ?_)⟩
  rw [if_pos ((mv_cmp_eq _ _).2 rfl)]
  exact hn _ _ ⟨so_bid hS, lw_CY C1 y2, D2, fun j => (y2 0 j (by decide)).trans (f0 j)⟩
theorem lc_goes (hI : lw_I X c S M) (hc : c ≤ 100000) (hX : ∀ j, mv_R32 (X j)) (hi : 0 ≤ i) (hil : i + 6 ≤ (l : Int)) (hl : l ≤ 100000) (hn : ∀ S M, lw_I X (c + 1) S M → mv_Run G 226 0 0 1387 [(0, .inr (.inr 0)), (1, .inr (.inr 1)), (2, .inr (.inr 88)), (3, .inl i)] [] (mh l) M post) : mv_Run G 226 0 0 686 [(0, .inr (.inr 0)), (1, .inr (.inr 1)), (2, .inr (.inr 88)), (3, .inl i)] [] (mh l) M post := by
  obtain ⟨hS, hC, hM, h0⟩ := hI
  refine vl_686 ?_
  simp only [h0]
  refine ⟨⟨by omega, by omega⟩, ⟨by omega, by omega⟩, ⟨by omega, by omega⟩, ⟨by omega, by omega⟩, ca_goes hS hc hC (hX _) (fun M1 x1 C1 => ?_)⟩
  have f0 : ∀ j, M1 0 j = X j := fun j => (x1 0 j (Or.inl rfl)).trans (h0 j)
  simp only [f0]
  refine ⟨⟨by omega, by omega⟩, ⟨by omega, by omega⟩, ⟨by omega, by omega⟩, ⟨by omega, by omega⟩, ma_goes hS hc (lw_MX hM x1) (hX _) (fun M2 y2 D2 => ?_)⟩
  rw [if_pos rfl]
  exact hn _ _ ⟨so_goes hS, lw_CY C1 y2, D2, fun j => (y2 0 j (by decide)).trans (f0 j)⟩
theorem lc_rent (hI : lw_I X c S M) (hc : c ≤ 100000) (hX : ∀ j, mv_R32 (X j)) (hi : 0 ≤ i) (hil : i + 6 ≤ (l : Int)) (hl : l ≤ 100000) (hn : ∀ S M, lw_I X (c + 1) S M → mv_Run G 226 0 0 1387 [(0, .inr (.inr 0)), (1, .inr (.inr 1)), (2, .inr (.inr 88)), (3, .inl i)] [] (mh l) M post) : mv_Run G 226 0 0 719 [(0, .inr (.inr 0)), (1, .inr (.inr 1)), (2, .inr (.inr 88)), (3, .inl i)] [] (mh l) M post := by
  obtain ⟨hS, hC, hM, h0⟩ := hI
  refine vl_719 ?_
  simp only [h0]
  refine ⟨⟨by omega, by omega⟩, ⟨by omega, by omega⟩, ca_rent hS hc hC (hX _) (fun M1 x1 C1 => ?_)⟩
  have f0 : ∀ j, M1 0 j = X j := fun j => (x1 0 j (Or.inl rfl)).trans (h0 j)
  simp only [f0]
  refine ⟨⟨by omega, by omega⟩, ⟨by omega, by omega⟩, ma_rent hS hc (lw_MX hM x1) (hX _) (fun M2 y2 D2 => ?_)⟩
  rw [if_pos ((mv_cmp_eq _ _).2 rfl)]
  exact hn _ _ ⟨so_rent hS, lw_CY C1 y2, D2, fun j => (y2 0 j (by decide)).trans (f0 j)⟩
theorem lc_comes (hI : lw_I X c S M) (hc : c ≤ 100000) (hX : ∀ j, mv_R32 (X j)) (hi : 0 ≤ i) (hil : i + 6 ≤ (l : Int)) (hl : l ≤ 100000) (hn : ∀ S M, lw_I X (c + 1) S M → mv_Run G 226 0 0 1387 [(0, .inr (.inr 0)), (1, .inr (.inr 1)), (2, .inr (.inr 88)), (3, .inl i)] [] (mh l) M post) : mv_Run G 226 0 0 743 [(0, .inr (.inr 0)), (1, .inr (.inr 1)), (2, .inr (.inr 88)), (3, .inl i)] [] (mh l) M post := by
  obtain ⟨hS, hC, hM, h0⟩ := hI
  refine vl_743 ?_
  simp only [h0]
  refine ⟨⟨by omega, by omega⟩, ⟨by omega, by omega⟩, ⟨by omega, by omega⟩, ⟨by omega, by omega⟩, ca_comes hS hc hC (fun M1 x1 C1 => ?_)⟩
  have f0 : ∀ j, M1 0 j = X j := fun j => (x1 0 j (Or.inl rfl)).trans (h0 j)
  simp only [f0]
  refine ⟨⟨by omega, by omega⟩, ⟨by omega, by omega⟩, ⟨by omega, by omega⟩, ⟨by omega, by omega⟩, ma_comes hS hc (lw_MX hM x1) (fun M2 y2 D2 => ?_)⟩
  rw [if_pos rfl]
  exact hn _ _ ⟨so_comes hS, lw_CY C1 y2, D2, fun j => (y2 0 j (by decide)).trans (f0 j)⟩
theorem lc_piece (hI : lw_I X c S M) (hc : c ≤ 100000) (hX : ∀ j, mv_R32 (X j)) (hi : 0 ≤ i) (hil : i + 6 ≤ (l : Int)) (hl : l ≤ 100000) (hn : ∀ S M, lw_I X (c + 1) S M → mv_Run G 226 0 0 1387 [(0, .inr (.inr 0)), (1, .inr (.inr 1)), (2, .inr (.inr 88)), (3, .inl i)] [] (mh l) M post) : mv_Run G 226 0 0 776 [(0, .inr (.inr 0)), (1, .inr (.inr 1)), (2, .inr (.inr 88)), (3, .inl i)] [] (mh l) M post := by
  obtain ⟨hS, hC, hM, h0⟩ := hI
  refine vl_776 ?_
  simp only [h0]
  refine ⟨⟨by omega, by omega⟩, ⟨by omega, by omega⟩, ⟨by omega, by omega⟩, ⟨by omega, by omega⟩, ⟨by omega, by omega⟩, ⟨by omega, by omega⟩, ⟨by omega, by omega⟩, ⟨by omega, by omega⟩, ca_piece hS hc hC (fun M1 x1 C1 => ?_)⟩
  have f0 : ∀ j, M1 0 j = X j := fun j => (x1 0 j (Or.inl rfl)).trans (h0 j)
  simp only [f0]
  refine ⟨⟨by omega, by omega⟩, ⟨by omega, by omega⟩, ⟨by omega, by omega⟩, ⟨by omega, by omega⟩, ⟨by omega, by omega⟩, ⟨by omega, by omega⟩, ⟨by omega, by omega⟩, ⟨by omega, by omega⟩, ma_piece hS hc (lw_MX hM x1) (fun M2 y2 D2 => ?_)⟩
  rw [if_pos rfl]
  exact hn _ _ ⟨so_piece hS, lw_CY C1 y2, D2, fun j => (y2 0 j (by decide)).trans (f0 j)⟩
theorem lc_bought (hI : lw_I X c S M) (hc : c ≤ 100000) (hX : ∀ j, mv_R32 (X j)) (hi : 0 ≤ i) (hil : i + 6 ≤ (l : Int)) (hl : l ≤ 100000) (hn : ∀ S M, lw_I X (c + 1) S M → mv_Run G 226 0 0 1387 [(0, .inr (.inr 0)), (1, .inr (.inr 1)), (2, .inr (.inr 88)), (3, .inl i)] [] (mh l) M post) : mv_Run G 226 0 0 829 [(0, .inr (.inr 0)), (1, .inr (.inr 1)), (2, .inr (.inr 88)), (3, .inl i)] [] (mh l) M post := by
  obtain ⟨hS, hC, hM, h0⟩ := hI
  refine vl_829 ?_
  simp only [h0]
  refine ⟨⟨by omega, by omega⟩, ⟨by omega, by omega⟩, ⟨by omega, by omega⟩, ⟨by omega, by omega⟩, ⟨by omega, by omega⟩, ⟨by omega, by omega⟩, ca_bought hS hc hC (fun M1 x1 C1 => ?_)⟩
  have f0 : ∀ j, M1 0 j = X j := fun j => (x1 0 j (Or.inl rfl)).trans (h0 j)
  simp only [f0]
  refine ⟨⟨by omega, by omega⟩, ⟨by omega, by omega⟩, ⟨by omega, by omega⟩, ⟨by omega, by omega⟩, ⟨by omega, by omega⟩, ⟨by omega, by omega⟩, ma_bought hS hc (lw_MX hM x1) (fun M2 y2 D2 => ?_)⟩
  rw [if_pos rfl]
  exact hn _ _ ⟨so_bought hS, lw_CY C1 y2, D2, fun j => (y2 0 j (by decide)).trans (f0 j)⟩
theorem lc_clears (hI : lw_I X c S M) (hc : c ≤ 100000) (hX : ∀ j, mv_R32 (X j)) (hi : 0 ≤ i) (hil : i + 6 ≤ (l : Int)) (hl : l ≤ 100000) (hn : ∀ S M, lw_I X (c + 1) S M → mv_Run G 226 0 0 1387 [(0, .inr (.inr 0)), (1, .inr (.inr 1)), (2, .inr (.inr 88)), (3, .inl i)] [] (mh l) M post) : mv_Run G 226 0 0 872 [(0, .inr (.inr 0)), (1, .inr (.inr 1)), (2, .inr (.inr 88)), (3, .inl i)] [] (mh l) M post := by
  obtain ⟨hS, hC, hM, h0⟩ := hI
  refine vl_872 ?_
  simp only [h0]
  refine ⟨⟨by omega, by omega⟩, ⟨by omega, by omega⟩, ⟨by omega, by omega⟩, ⟨by omega, by omega⟩, ca_clears hS hc hC (fun M1 x1 C1 => ?_)⟩
  have f0 : ∀ j, M1 0 j = X j := fun j => (x1 0 j (Or.inl rfl)).trans (h0 j)
  simp only [f0]
  refine ⟨⟨by omega, by omega⟩, ⟨by omega, by omega⟩, ⟨by omega, by omega⟩, ⟨by omega, by omega⟩, ma_clears hS hc (lw_MX hM x1) (fun M2 y2 D2 => ?_)⟩
  rw [if_pos rfl]
  exact hn _ _ ⟨so_clears hS, lw_CY C1 y2, D2, fun j => (y2 0 j (by decide)).trans (f0 j)⟩
theorem lc_rounds (hI : lw_I X c S M) (hc : c ≤ 100000) (hX : ∀ j, mv_R32 (X j)) (hi : 0 ≤ i) (hil : i + 6 ≤ (l : Int)) (hl : l ≤ 100000) (hn : ∀ S M, lw_I X (c + 1) S M → mv_Run G 226 0 0 1387 [(0, .inr (.inr 0)), (1, .inr (.inr 1)), (2, .inr (.inr 88)), (3, .inl i)] [] (mh l) M post) : mv_Run G 226 0 0 905 [(0, .inr (.inr 0)), (1, .inr (.inr 1)), (2, .inr (.inr 88)), (3, .inl i)] [] (mh l) M post := by
  obtain ⟨hS, hC, hM, h0⟩ := hI
  refine vl_905 ?_
  simp only [h0]
  refine ⟨⟨by omega, by omega⟩, ⟨by omega, by omega⟩, ca_rounds hS hc hC (fun M1 x1 C1 => ?_)⟩
  have f0 : ∀ j, M1 0 j = X j := fun j => (x1 0 j (Or.inl rfl)).trans (h0 j)
  simp only [f0]
  refine ⟨⟨by omega, by omega⟩, ⟨by omega, by omega⟩, ma_rounds hS hc (lw_MX hM x1) (fun M2 y2 D2 => ?_)⟩
  rw [if_pos rfl]
  exact hn _ _ ⟨so_rounds hS, lw_CY C1 y2, D2, fun j => (y2 0 j (by decide)).trans (f0 j)⟩
theorem lc_ring (hI : lw_I X c S M) (hc : c ≤ 100000) (hX : ∀ j, mv_R32 (X j)) (hi : 0 ≤ i) (hil : i + 6 ≤ (l : Int)) (hl : l ≤ 100000) (hn : ∀ S M, lw_I X (c + 1) S M → mv_Run G 226 0 0 1387 [(0, .inr (.inr 0)), (1, .inr (.inr 1)), (2, .inr (.inr 88)), (3, .inl i)] [] (mh l) M post) : mv_Run G 226 0 0 928 [(0, .inr (.inr 0)), (1, .inr (.inr 1)), (2, .inr (.inr 88)), (3, .inl i)] [] (mh l) M post := by
  obtain ⟨hS, hC, hM, h0⟩ := hI
  refine vl_928 ?_
  simp only [h0]
  refine ⟨⟨by omega, by omega⟩, ⟨by omega, by omega⟩, ⟨by omega, by omega⟩, ⟨by omega, by omega⟩, ca_ring hS hc hC (fun M1 x1 C1 => ?_)⟩
  have f0 : ∀ j, M1 0 j = X j := fun j => (x1 0 j (Or.inl rfl)).trans (h0 j)
  simp only [f0]
  refine ⟨⟨by omega, by omega⟩, ⟨by omega, by omega⟩, ⟨by omega, by omega⟩, ⟨by omega, by omega⟩, ma_ring hS hc (lw_MX hM x1) (fun M2 y2 D2 => ?_)⟩
  rw [if_pos rfl]
  exact hn _ _ ⟨so_ring hS, lw_CY C1 y2, D2, fun j => (y2 0 j (by decide)).trans (f0 j)⟩
theorem lc_edge (hI : lw_I X c S M) (hc : c ≤ 100000) (hX : ∀ j, mv_R32 (X j)) (hi : 0 ≤ i) (hil : i + 6 ≤ (l : Int)) (hl : l ≤ 100000) (hn : ∀ S M, lw_I X (c + 1) S M → mv_Run G 226 0 0 1387 [(0, .inr (.inr 0)), (1, .inr (.inr 1)), (2, .inr (.inr 88)), (3, .inl i)] [] (mh l) M post) : mv_Run G 226 0 0 961 [(0, .inr (.inr 0)), (1, .inr (.inr 1)), (2, .inr (.inr 88)), (3, .inl i)] [] (mh l) M post := by
  obtain ⟨hS, hC, hM, h0⟩ := hI
  refine vl_961 ?_
  simp only [h0]
  refine ⟨⟨by omega, by omega⟩, ⟨by omega, by omega⟩, ⟨by omega, by omega⟩, ⟨by omega, by omega⟩, ⟨by omega, by omega⟩, ⟨by omega, by omega⟩, ca_edge hS hc hC (fun M1 x1 C1 => ?_)⟩
  have f0 : ∀ j, M1 0 j = X j := fun j => (x1 0 j (Or.inl rfl)).trans (h0 j)
  simp only [f0]
  refine ⟨⟨by omega, by omega⟩, ⟨by omega, by omega⟩, ⟨by omega, by omega⟩, ⟨by omega, by omega⟩, ⟨by omega, by omega⟩, ⟨by omega, by omega⟩, ma_edge hS hc (lw_MX hM x1) (fun M2 y2 D2 => ?_)⟩
  rw [if_pos ((mv_cmp_eq _ _).2 rfl)]
  exact hn _ _ ⟨so_edge hS, lw_CY C1 y2, D2, fun j => (y2 0 j (by decide)).trans (f0 j)⟩
theorem lc_out (hI : lw_I X c S M) (hc : c ≤ 100000) (hX : ∀ j, mv_R32 (X j)) (hi : 0 ≤ i) (hil : i + 6 ≤ (l : Int)) (hl : l ≤ 100000) (hn : ∀ S M, lw_I X (c + 1) S M → mv_Run G 226 0 0 1387 [(0, .inr (.inr 0)), (1, .inr (.inr 1)), (2, .inr (.inr 88)), (3, .inl i)] [] (mh l) M post) : mv_Run G 226 0 0 1005 [(0, .inr (.inr 0)), (1, .inr (.inr 1)), (2, .inr (.inr 88)), (3, .inl i)] [] (mh l) M post := by
  obtain ⟨hS, hC, hM, h0⟩ := hI
  refine vl_1005 ?_
  simp only [h0]
  refine ⟨⟨by omega, by omega⟩, ⟨by omega, by omega⟩, ca_out hS hc hC (fun M1 x1 C1 => ?_)⟩
  have f0 : ∀ j, M1 0 j = X j := fun j => (x1 0 j (Or.inl rfl)).trans (h0 j)
  simp only [f0]
  refine ⟨⟨by omega, by omega⟩, ⟨by omega, by omega⟩, ma_out hS hc (lw_MX hM x1) (fun M2 y2 D2 => ?_)⟩
  rw [if_pos rfl]
  exact hn _ _ ⟨so_out hS, lw_CY C1 y2, D2, fun j => (y2 0 j (by decide)).trans (f0 j)⟩
theorem lc_borders (hI : lw_I X c S M) (hc : c ≤ 100000) (hX : ∀ j, mv_R32 (X j)) (hi : 0 ≤ i) (hil : i + 6 ≤ (l : Int)) (hl : l ≤ 100000) (hn : ∀ S M, lw_I X (c + 1) S M → mv_Run G 226 0 0 1387 [(0, .inr (.inr 0)), (1, .inr (.inr 1)), (2, .inr (.inr 88)), (3, .inl i)] [] (mh l) M post) : mv_Run G 226 0 0 1028 [(0, .inr (.inr 0)), (1, .inr (.inr 1)), (2, .inr (.inr 88)), (3, .inl i)] [] (mh l) M post := by
  obtain ⟨hS, hC, hM, h0⟩ := hI
  refine vl_1028 ?_
  refine ca_borders hS hC (fun M1 x1 C1 => ?_)
  have f0 : ∀ j, M1 0 j = X j := fun j => (x1 0 j (Or.inl rfl)).trans (h0 j)
  refine ma_borders hS (lw_MX hM x1) (fun M2 y2 D2 => ?_)
  rw [if_pos rfl]
  exact hn _ _ ⟨so_borders hS, lw_CY C1 y2, D2, fun j => (y2 0 j (by decide)).trans (f0 j)⟩
theorem lc_plan (hI : lw_I X c S M) (hc : c ≤ 100000) (hX : ∀ j, mv_R32 (X j)) (hi : 0 ≤ i) (hil : i + 6 ≤ (l : Int)) (hl : l ≤ 100000) (hn : ∀ S M, lw_I X (c + 1) S M → mv_Run G 226 0 0 1387 [(0, .inr (.inr 0)), (1, .inr (.inr 1)), (2, .inr (.inr 88)), (3, .inl i)] [] (mh l) M post) : mv_Run G 226 0 0 1041 [(0, .inr (.inr 0)), (1, .inr (.inr 1)), (2, .inr (.inr 88)), (3, .inl i)] [] (mh l) M post := by
  obtain ⟨hS, hC, hM, h0⟩ := hI
  refine vl_1041 ?_
  simp only [h0]
  refine ⟨⟨by omega, by omega⟩, ⟨by omega, by omega⟩, ⟨by omega, by omega⟩, ⟨by omega, by omega⟩, ⟨by omega, by omega⟩, ⟨by omega, by omega⟩, ⟨by omega, by omega⟩, ⟨by omega, by omega⟩, ca_plan hS hc hC (hX _) (hX _) (fun M1 x1 C1 => ?_)⟩
  have f0 : ∀ j, M1 0 j = X j := fun j => (x1 0 j (Or.inl rfl)).trans (h0 j)
  simp only [f0]
  refine ⟨⟨by omega, by omega⟩, ⟨by omega, by omega⟩, ⟨by omega, by omega⟩, ⟨by omega, by omega⟩, ⟨by omega, by omega⟩, ⟨by omega, by omega⟩, ⟨by omega, by omega⟩, ⟨by omega, by omega⟩, ma_plan hS hc (lw_MX hM x1) (hX _) (hX _) (fun M2 y2 D2 => ?_)⟩
  rw [if_pos rfl]
  exact hn _ _ ⟨so_plan hS, lw_CY C1 y2, D2, fun j => (y2 0 j (by decide)).trans (f0 j)⟩
theorem lc_gain (hI : lw_I X c S M) (hc : c ≤ 100000) (hX : ∀ j, mv_R32 (X j)) (hi : 0 ≤ i) (hil : i + 6 ≤ (l : Int)) (hl : l ≤ 100000) (hn : ∀ S M, lw_I X (c + 1) S M → mv_Run G 226 0 0 1387 [(0, .inr (.inr 0)), (1, .inr (.inr 1)), (2, .inr (.inr 88)), (3, .inl i)] [] (mh l) M post) : mv_Run G 226 0 0 1094 [(0, .inr (.inr 0)), (1, .inr (.inr 1)), (2, .inr (.inr 88)), (3, .inl i)] [] (mh l) M post := by
  obtain ⟨hS, hC, hM, h0⟩ := hI
  refine vl_1094 ?_
  simp only [h0]
  refine ⟨⟨by omega, by omega⟩, ⟨by omega, by omega⟩, ca_gain hS hc hC (fun M1 x1 C1 => ?_)⟩
  have f0 : ∀ j, M1 0 j = X j := fun j => (x1 0 j (Or.inl rfl)).trans (h0 j)
  simp only [f0]
  refine ⟨⟨by omega, by omega⟩, ⟨by omega, by omega⟩, ma_gain hS hc (lw_MX hM x1) (fun M2 y2 D2 => ?_)⟩
  rw [if_pos ((mv_cmp_eq _ _).2 rfl)]
  exact hn _ _ ⟨so_gain hS, lw_CY C1 y2, D2, fun j => (y2 0 j (by decide)).trans (f0 j)⟩
theorem lc_best (hI : lw_I X c S M) (hc : c ≤ 100000) (hX : ∀ j, mv_R32 (X j)) (hi : 0 ≤ i) (hil : i + 6 ≤ (l : Int)) (hl : l ≤ 100000) (hn : ∀ S M, lw_I X (c + 1) S M → mv_Run G 226 0 0 1387 [(0, .inr (.inr 0)), (1, .inr (.inr 1)), (2, .inr (.inr 88)), (3, .inl i)] [] (mh l) M post) : mv_Run G 226 0 0 1118 [(0, .inr (.inr 0)), (1, .inr (.inr 1)), (2, .inr (.inr 88)), (3, .inl i)] [] (mh l) M post := by
  obtain ⟨hS, hC, hM, h0⟩ := hI
  refine vl_1118 ?_
  simp only [h0]
  refine ⟨⟨by omega, by omega⟩, ⟨by omega, by omega⟩, ca_best hS hc hC (fun M1 x1 C1 => ?_)⟩
  have f0 : ∀ j, M1 0 j = X j := fun j => (x1 0 j (Or.inl rfl)).trans (h0 j)
  simp only [f0]
  refine ⟨⟨by omega, by omega⟩, ⟨by omega, by omega⟩, ma_best hS hc (lw_MX hM x1) (fun M2 y2 D2 => ?_)⟩
  rw [if_pos rfl]
  exact hn _ _ ⟨so_best hS, lw_CY C1 y2, D2, fun j => (y2 0 j (by decide)).trans (f0 j)⟩
theorem lc_losers (hI : lw_I X c S M) (hc : c ≤ 100000) (hX : ∀ j, mv_R32 (X j)) (hi : 0 ≤ i) (hil : i + 6 ≤ (l : Int)) (hl : l ≤ 100000) (hn : ∀ S M, lw_I X (c + 1) S M → mv_Run G 226 0 0 1387 [(0, .inr (.inr 0)), (1, .inr (.inr 1)), (2, .inr (.inr 88)), (3, .inl i)] [] (mh l) M post) : mv_Run G 226 0 0 1141 [(0, .inr (.inr 0)), (1, .inr (.inr 1)), (2, .inr (.inr 88)), (3, .inl i)] [] (mh l) M post := by
  obtain ⟨hS, hC, hM, h0⟩ := hI
  refine vl_1141 ?_
  simp only [h0]
  refine ⟨⟨by omega, by omega⟩, ⟨by omega, by omega⟩, ca_losers hS hc hC (fun M1 x1 C1 => ?_)⟩
  have f0 : ∀ j, M1 0 j = X j := fun j => (x1 0 j (Or.inl rfl)).trans (h0 j)
  simp only [f0]
  refine ⟨⟨by omega, by omega⟩, ⟨by omega, by omega⟩, ma_losers hS hc (lw_MX hM x1) (fun M2 y2 D2 => ?_)⟩
  rw [if_pos rfl]
  exact hn _ _ ⟨so_losers hS, lw_CY C1 y2, D2, fun j => (y2 0 j (by decide)).trans (f0 j)⟩
theorem lc_falls (hI : lw_I X c S M) (hc : c ≤ 100000) (hX : ∀ j, mv_R32 (X j)) (hi : 0 ≤ i) (hil : i + 6 ≤ (l : Int)) (hl : l ≤ 100000) (hn : ∀ S M, lw_I X (c + 1) S M → mv_Run G 226 0 0 1387 [(0, .inr (.inr 0)), (1, .inr (.inr 1)), (2, .inr (.inr 88)), (3, .inl i)] [] (mh l) M post) : mv_Run G 226 0 0 1164 [(0, .inr (.inr 0)), (1, .inr (.inr 1)), (2, .inr (.inr 88)), (3, .inl i)] [] (mh l) M post := by
  obtain ⟨hS, hC, hM, h0⟩ := hI
  refine vl_1164 ?_
  simp only [h0]
  refine ⟨⟨by omega, by omega⟩, ⟨by omega, by omega⟩, ⟨by omega, by omega⟩, ⟨by omega, by omega⟩, ca_falls hS hc hC (fun M1 x1 C1 => ?_)⟩
  have f0 : ∀ j, M1 0 j = X j := fun j => (x1 0 j (Or.inl rfl)).trans (h0 j)
  simp only [f0]
  refine ⟨⟨by omega, by omega⟩, ⟨by omega, by omega⟩, ⟨by omega, by omega⟩, ⟨by omega, by omega⟩, ma_falls hS hc (lw_MX hM x1) (fun M2 y2 D2 => ?_)⟩
  rw [if_pos rfl]
  exact hn _ _ ⟨so_falls hS, lw_CY C1 y2, D2, fun j => (y2 0 j (by decide)).trans (f0 j)⟩
theorem lc_own (hI : lw_I X c S M) (hc : c ≤ 100000) (hX : ∀ j, mv_R32 (X j)) (hi : 0 ≤ i) (hil : i + 6 ≤ (l : Int)) (hl : l ≤ 100000) (hn : ∀ S M, lw_I X (c + 1) S M → mv_Run G 226 0 0 1387 [(0, .inr (.inr 0)), (1, .inr (.inr 1)), (2, .inr (.inr 88)), (3, .inl i)] [] (mh l) M post) : mv_Run G 226 0 0 1197 [(0, .inr (.inr 0)), (1, .inr (.inr 1)), (2, .inr (.inr 88)), (3, .inl i)] [] (mh l) M post := by
  obtain ⟨hS, hC, hM, h0⟩ := hI
  refine vl_1197 ?_
  simp only [h0]
  refine ⟨⟨by omega, by omega⟩, ⟨by omega, by omega⟩, ⟨by omega, by omega⟩, ⟨by omega, by omega⟩, ca_own hS hc hC (hX _) (fun M1 x1 C1 => ?_)⟩
  have f0 : ∀ j, M1 0 j = X j := fun j => (x1 0 j (Or.inl rfl)).trans (h0 j)
  simp only [f0]
  refine ⟨⟨by omega, by omega⟩, ⟨by omega, by omega⟩, ⟨by omega, by omega⟩, ⟨by omega, by omega⟩, ma_own hS hc (lw_MX hM x1) (hX _) (fun M2 y2 D2 => ?_)⟩
  rw [if_pos rfl]
  exact hn _ _ ⟨so_own hS, lw_CY C1 y2, D2, fun j => (y2 0 j (by decide)).trans (f0 j)⟩
theorem lc_held (hI : lw_I X c S M) (hc : c ≤ 100000) (hX : ∀ j, mv_R32 (X j)) (hi : 0 ≤ i) (hil : i + 6 ≤ (l : Int)) (hl : l ≤ 100000) (hn : ∀ S M, lw_I X (c + 1) S M → mv_Run G 226 0 0 1387 [(0, .inr (.inr 0)), (1, .inr (.inr 1)), (2, .inr (.inr 88)), (3, .inl i)] [] (mh l) M post) : mv_Run G 226 0 0 1230 [(0, .inr (.inr 0)), (1, .inr (.inr 1)), (2, .inr (.inr 88)), (3, .inl i)] [] (mh l) M post := by
  obtain ⟨hS, hC, hM, h0⟩ := hI
  refine vl_1230 ?_
  simp only [h0]
  refine ⟨⟨by omega, by omega⟩, ⟨by omega, by omega⟩, ⟨by omega, by omega⟩, ⟨by omega, by omega⟩, ?_⟩
  split
  · rename_i z
    refine ca_held hS hc hC (hX _) (fun M1 x1 C1 => ?_)
    have f0 : ∀ j, M1 0 j = X j := fun j => (x1 0 j (Or.inl rfl)).trans (h0 j)
    simp only [f0]
    refine ⟨⟨by omega, by omega⟩, ⟨by omega, by omega⟩, ⟨by omega, by omega⟩, ⟨by omega, by omega⟩, ?_⟩
    rw [if_pos z]
    refine ma_held hS hc (lw_MX hM x1) (hX _) (Or.inl rfl) (fun M2 y2 D2 => ?_)
    rw [if_pos rfl]
    exact hn _ _ ⟨so_held hS, lw_CY C1 y2, D2, fun j => (y2 0 j (by decide)).trans (f0 j)⟩
  · rename_i z
    refine ca_held hS hc hC (hX _) (fun M1 x1 C1 => ?_)
    have f0 : ∀ j, M1 0 j = X j := fun j => (x1 0 j (Or.inl rfl)).trans (h0 j)
    simp only [f0]
    refine ⟨⟨by omega, by omega⟩, ⟨by omega, by omega⟩, ⟨by omega, by omega⟩, ⟨by omega, by omega⟩, ?_⟩
    rw [if_neg z]
    refine ma_held hS hc (lw_MX hM x1) (hX _) (Or.inr rfl) (fun M2 y2 D2 => ?_)
    rw [if_pos rfl]
    exact hn _ _ ⟨so_held hS, lw_CY C1 y2, D2, fun j => (y2 0 j (by decide)).trans (f0 j)⟩
theorem lc_hold (hI : lw_I X c S M) (hc : c ≤ 100000) (hX : ∀ j, mv_R32 (X j)) (hi : 0 ≤ i) (hil : i + 6 ≤ (l : Int)) (hl : l ≤ 100000) (hn : ∀ S M, lw_I X (c + 1) S M → mv_Run G 226 0 0 1387 [(0, .inr (.inr 0)), (1, .inr (.inr 1)), (2, .inr (.inr 88)), (3, .inl i)] [] (mh l) M post) : mv_Run G 226 0 0 1279 [(0, .inr (.inr 0)), (1, .inr (.inr 1)), (2, .inr (.inr 88)), (3, .inl i)] [] (mh l) M post := by
  obtain ⟨hS, hC, hM, h0⟩ := hI
  refine vl_1279 ?_
  simp only [h0]
  refine ⟨⟨by omega, by omega⟩, ⟨by omega, by omega⟩, ca_hold hS hc hC (fun M1 x1 C1 => ?_)⟩
  have f0 : ∀ j, M1 0 j = X j := fun j => (x1 0 j (Or.inl rfl)).trans (h0 j)
  simp only [f0]
  refine ⟨⟨by omega, by omega⟩, ⟨by omega, by omega⟩, ma_hold hS hc (lw_MX hM x1) (fun M2 y2 D2 => ?_)⟩
  rw [if_pos rfl]
  exact hn _ _ ⟨so_hold hS, lw_CY C1 y2, D2, fun j => (y2 0 j (by decide)).trans (f0 j)⟩
theorem lc_put (hI : lw_I X c S M) (hc : c ≤ 100000) (hX : ∀ j, mv_R32 (X j)) (hi : 0 ≤ i) (hil : i + 6 ≤ (l : Int)) (hl : l ≤ 100000) (hn : ∀ S M, lw_I X (c + 1) S M → mv_Run G 226 0 0 1387 [(0, .inr (.inr 0)), (1, .inr (.inr 1)), (2, .inr (.inr 88)), (3, .inl i)] [] (mh l) M post) : mv_Run G 226 0 0 1302 [(0, .inr (.inr 0)), (1, .inr (.inr 1)), (2, .inr (.inr 88)), (3, .inl i)] [] (mh l) M post := by
  obtain ⟨hS, hC, hM, h0⟩ := hI
  refine vl_1302 ?_
  simp only [h0]
  refine ⟨⟨by omega, by omega⟩, ⟨by omega, by omega⟩, ca_put hS hc hC (fun M1 x1 C1 => ?_)⟩
  have f0 : ∀ j, M1 0 j = X j := fun j => (x1 0 j (Or.inl rfl)).trans (h0 j)
  simp only [f0]
  refine ⟨⟨by omega, by omega⟩, ⟨by omega, by omega⟩, ma_put hS hc (lw_MX hM x1) (fun M2 y2 D2 => ?_)⟩
  rw [if_pos rfl]
  exact hn _ _ ⟨so_put hS, lw_CY C1 y2, D2, fun j => (y2 0 j (by decide)).trans (f0 j)⟩
theorem lc_judge (hI : lw_I X c S M) (hc : c ≤ 100000) (hX : ∀ j, mv_R32 (X j)) (hi : 0 ≤ i) (hil : i + 6 ≤ (l : Int)) (hl : l ≤ 100000) (hn : ∀ S M, lw_I X (c + 1) S M → mv_Run G 226 0 0 1387 [(0, .inr (.inr 0)), (1, .inr (.inr 1)), (2, .inr (.inr 88)), (3, .inl i)] [] (mh l) M post) : mv_Run G 226 0 0 1325 [(0, .inr (.inr 0)), (1, .inr (.inr 1)), (2, .inr (.inr 88)), (3, .inl i)] [] (mh l) M post := by
  obtain ⟨hS, hC, hM, h0⟩ := hI
  refine vl_1325 ?_
  refine ca_judge hS hC (fun M1 x1 C1 => ?_)
  have f0 : ∀ j, M1 0 j = X j := fun j => (x1 0 j (Or.inl rfl)).trans (h0 j)
  refine ma_judge hS (lw_MX hM x1) (fun M2 y2 D2 => ?_)
  rw [if_pos rfl]
  exact hn _ _ ⟨so_judge hS, lw_CY C1 y2, D2, fun j => (y2 0 j (by decide)).trans (f0 j)⟩
theorem lc_image (hI : lw_I X c S M) (hc : c ≤ 100000) (hX : ∀ j, mv_R32 (X j)) (hi : 0 ≤ i) (hil : i + 6 ≤ (l : Int)) (hl : l ≤ 100000) (hn : ∀ S M, lw_I X (c + 1) S M → mv_Run G 226 0 0 1387 [(0, .inr (.inr 0)), (1, .inr (.inr 1)), (2, .inr (.inr 88)), (3, .inl i)] [] (mh l) M post) : mv_Run G 226 0 0 1338 [(0, .inr (.inr 0)), (1, .inr (.inr 1)), (2, .inr (.inr 88)), (3, .inl i)] [] (mh l) M post := by
  obtain ⟨hS, hC, hM, h0⟩ := hI
  refine vl_1338 ?_
  refine ca_image hS hC (fun M1 x1 C1 => ?_)
  have f0 : ∀ j, M1 0 j = X j := fun j => (x1 0 j (Or.inl rfl)).trans (h0 j)
  refine ma_image hS (lw_MX hM x1) (fun M2 y2 D2 => ?_)
  rw [if_pos rfl]
  exact hn _ _ ⟨so_image hS, lw_CY C1 y2, D2, fun j => (y2 0 j (by decide)).trans (f0 j)⟩
theorem lc_on (hI : lw_I X c S M) (hc : c ≤ 100000) (hX : ∀ j, mv_R32 (X j)) (hi : 0 ≤ i) (hil : i + 6 ≤ (l : Int)) (hl : l ≤ 100000) (hn : ∀ S M, lw_I X (c + 1) S M → mv_Run G 226 0 0 1387 [(0, .inr (.inr 0)), (1, .inr (.inr 1)), (2, .inr (.inr 88)), (3, .inl i)] [] (mh l) M post) : mv_Run G 226 0 0 1351 [(0, .inr (.inr 0)), (1, .inr (.inr 1)), (2, .inr (.inr 88)), (3, .inl i)] [] (mh l) M post := by
  obtain ⟨hS, hC, hM, h0⟩ := hI
  refine vl_1351 ?_
  refine ca_on hS hc hC (fun M1 x1 C1 => ?_)
  have f0 : ∀ j, M1 0 j = X j := fun j => (x1 0 j (Or.inl rfl)).trans (h0 j)
  refine ma_on hS hc (lw_MX hM x1) (fun M2 y2 D2 => ?_)
  rw [if_pos rfl]
  exact hn _ _ ⟨so_on hS, lw_CY C1 y2, D2, fun j => (y2 0 j (by decide)).trans (f0 j)⟩
theorem lc_count (hI : lw_I X c S M) (hc : c ≤ 100000) (hX : ∀ j, mv_R32 (X j)) (hi : 0 ≤ i) (hil : i + 6 ≤ (l : Int)) (hl : l ≤ 100000) (hn : ∀ S M, lw_I X (c + 1) S M → mv_Run G 226 0 0 1387 [(0, .inr (.inr 0)), (1, .inr (.inr 1)), (2, .inr (.inr 88)), (3, .inl i)] [] (mh l) M post) : mv_Run G 226 0 0 1364 [(0, .inr (.inr 0)), (1, .inr (.inr 1)), (2, .inr (.inr 88)), (3, .inl i)] [] (mh l) M post := by
  obtain ⟨hS, hC, hM, h0⟩ := hI
  refine vl_1364 ?_
  simp only [h0]
  refine ⟨⟨by omega, by omega⟩, ⟨by omega, by omega⟩, ca_count hS hC (fun M1 x1 C1 => ?_)⟩
  have f0 : ∀ j, M1 0 j = X j := fun j => (x1 0 j (Or.inl rfl)).trans (h0 j)
  simp only [f0]
  refine ⟨⟨by omega, by omega⟩, ⟨by omega, by omega⟩, ma_count hS (lw_MX hM x1) (fun M2 y2 D2 => ?_)⟩
  rw [if_pos rfl]
  exact hn _ _ ⟨so_count hS, lw_CY C1 y2, D2, fun j => (y2 0 j (by decide)).trans (f0 j)⟩
theorem lw_loop (hX : ∀ j, mv_R32 (X j)) (hl : l ≤ 100000) (hp : ∀ M, post (some (.inl 1)) (mh l) M) (n : Nat) : ∀ (c : Nat) (S M : mv_Mem), lw_I X c S M → l < 6 * c + 6 * n → c ≤ 100000 → ∀ i : Int, i = ((6 * c : Nat) : Int) → mv_Run G 226 0 0 18 [(0, .inr (.inr 0)), (1, .inr (.inr 1)), (2, .inr (.inr 88)), (3, .inl i)] [] (mh l) M post := by
  induction n with
  | zero =>
    intro c S M hI h hc i hi
    refine vl_18 ⟨⟨by omega, by omega⟩, ?_⟩
    rw [if_pos (by omega)]
    exact ⟨Or.inr rfl, hp M⟩
  | succ n ih =>
    intro c S M hI h hc i hi
    refine vl_18 ⟨⟨by omega, by omega⟩, ?_⟩
    by_cases q : ((l : Nat) : Int) - 6 < i
    · rw [if_pos q]
      exact ⟨Or.inr rfl, hp M⟩
    · rw [if_neg q]
      have hn : ∀ S M, lw_I X (c + 1) S M → mv_Run G 226 0 0 1387 [(0, .inr (.inr 0)), (1, .inr (.inr 1)), (2, .inr (.inr 88)), (3, .inl i)] [] (mh l) M post := fun S M hI => vl_1387 ⟨⟨by omega, by omega⟩, ih (c + 1) S M hI (by omega) (by omega) _ (by omega)⟩
      exact ⟨⟨by omega, by omega⟩, lw_ite (lc_feed hI hc hX (by omega) (by omega) hl hn) (lw_ite (lc_read hI hc hX (by omega) (by omega) hl hn) (lw_ite (lc_acre hI hc hX (by omega) (by omega) hl hn) (lw_ite (lc_road hI hc hX (by omega) (by omega) hl hn) (lw_ite (lc_step hI hc hX (by omega) (by omega) hl hn) (lw_ite (lc_toll hI hc hX (by omega) (by omega) hl hn) (lw_ite (lc_way hI hc hX (by omega) (by omega) hl hn) (lw_ite (lc_market hI hc hX (by omega) (by omega) hl hn) (lw_ite (lc_use hI hc hX (by omega) (by omega) hl hn) (lw_ite (lc_year hI hc hX (by omega) (by omega) hl hn) (lw_ite (lc_price hI hc hX (by omega) (by omega) hl hn) (lw_ite (lc_tax hI hc hX (by omega) (by omega) hl hn) (lw_ite (lc_bid hI hc hX (by omega) (by omega) hl hn) (lw_ite (lc_goes hI hc hX (by omega) (by omega) hl hn) (lw_ite (lc_rent hI hc hX (by omega) (by omega) hl hn) (lw_ite (lc_comes hI hc hX (by omega) (by omega) hl hn) (lw_ite (lc_piece hI hc hX (by omega) (by omega) hl hn) (lw_ite (lc_bought hI hc hX (by omega) (by omega) hl hn) (lw_ite (lc_clears hI hc hX (by omega) (by omega) hl hn) (lw_ite (lc_rounds hI hc hX (by omega) (by omega) hl hn) (lw_ite (lc_ring hI hc hX (by omega) (by omega) hl hn) (lw_ite (lc_edge hI hc hX (by omega) (by omega) hl hn) (lw_ite (lc_out hI hc hX (by omega) (by omega) hl hn) (lw_ite (lc_borders hI hc hX (by omega) (by omega) hl hn) (lw_ite (lc_plan hI hc hX (by omega) (by omega) hl hn) (lw_ite (lc_gain hI hc hX (by omega) (by omega) hl hn) (lw_ite (lc_best hI hc hX (by omega) (by omega) hl hn) (lw_ite (lc_losers hI hc hX (by omega) (by omega) hl hn) (lw_ite (lc_falls hI hc hX (by omega) (by omega) hl hn) (lw_ite (lc_own hI hc hX (by omega) (by omega) hl hn) (lw_ite (lc_held hI hc hX (by omega) (by omega) hl hn) (lw_ite (lc_hold hI hc hX (by omega) (by omega) hl hn) (lw_ite (lc_put hI hc hX (by omega) (by omega) hl hn) (lw_ite (lc_judge hI hc hX (by omega) (by omega) hl hn) (lw_ite (lc_image hI hc hX (by omega) (by omega) hl hn) (lw_ite (lc_on hI hc hX (by omega) (by omega) hl hn) (lw_ite (lc_count hI hc hX (by omega) (by omega) hl hn) (hn _ _ ⟨sg_oo_s hI.1, hI.2⟩)))))))))))))))))))))))))))))))))))))⟩
end LAW
