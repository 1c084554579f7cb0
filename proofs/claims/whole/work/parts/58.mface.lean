/-! THE MODEL's IMAGE (the rows by program: wip/whole/imggen.py) -/
section MQ2
variable {S : mv_Mem} {G : mv_G} {l c : Nat} {M : mv_Mem} {F : Int → mv_Mem → Prop}
/-- one row -/
theorem md_keep {M0 : mv_Mem} {F : mv_Mem → Prop} {a p L : Nat} (ht : a ≤ 136 ∧ mh_t a = 100) (hL : mh_l l a = L) (ha : a ≠ 88 ∧ a ≠ 136) (hk : M0 88 63 = 1) (hp : M0 88 64 = (p : Int)) (hpL : p + L ≤ 900) (hL1 : L ≤ 900)
    (h : ∀ M, (∀ b i, b ≠ 136 → ¬ (b = 88 ∧ i = 64) → M b i = M0 b i) → M 88 64 = ((p + L : Nat) : Int) → (∀ i, i < p → M 136 i = M0 136 i) → (∀ i, i < L → M 136 (p + i) = M0 a i) → F M) :
    mv_Wp G 216 [.inr (.inr 88), .inr (.inr a)] (mh l) M0 (mv_qv (mh l) F) := by
  have key : ∀ (m k : Nat) (M : mv_Mem), k + m = L → (∀ b i, b ≠ 136 → ¬ (b = 88 ∧ i = 64) → M b i = M0 b i) → M 88 64 = ((p + k : Nat) : Int) → (∀ i, i < p → M 136 i = M0 136 i) → (∀ i, i < k → M 136 (p + i) = M0 a i) →
      mv_Run G 216 136 7420 2 [(0, .inr (.inr 88)), (1, .inr (.inr a)), (2, .inl (k : Int))] [] (mh l) M (mv_qv (mh l) F) := by
    intro m
    induction m with
    | zero =>
      intro k M hk' f1 f2 f3 f4
      refine vr_X12_passes_2 ?_
      have e : (mh l).2.2.2.1 a = L := hL
      have ht : a ≤ (mh l).1 ∧ (mh l).2.2.1 a = 100 := ht
      rw [if_pos ht, e, if_pos (by omega)]
      have ek : k = L := by omega
      subst ek
      exact mv_qv_i (h M f1 f2 f3 f4)
    | succ m ih =>
      intro k M hk' f1 f2 f3 f4
      refine vr_X12_passes_2 ?_
      have e : (mh l).2.2.2.1 a = L := hL
      have ht : a ≤ (mh l).1 ∧ (mh l).2.2.1 a = 100 := ht
      have e63 : M 88 63 = 1 := (f1 88 63 (by decide) (by decide)).trans hk
      rw [if_pos ht, e, if_neg (by omega), e63, if_neg (by decide), if_pos ht, f2, Int.toNat_natCast, Int.toNat_natCast, mv_up_c (show (88 : Nat) ≠ 136 by decide), f2, f1 a k (by omega) (by omega)]
      refine ⟨by omega, by omega, by omega, by omega, ih (k + 1) _ (by omega) (fun b i h1 h2 => ?_) ?_ (fun i hi => ?_) (fun i hi => ?_)⟩
      · rw [mv_up_n h2, mv_up_c h1]
        exact f1 b i h1 h2
      · rw [mv_up_s]
        omega
      · rw [mv_up_c (by decide), mv_up_j (by omega)]
        exact f3 i hi
      · rw [mv_up_c (by decide)]
        by_cases y : i = k
        · rw [y, mv_up_s]
        · rw [mv_up_j (by omega)]
          exact f4 i (by omega)
  refine vw_X12_passes ?_
  exact key L 0 M0 (by omega) (fun _ _ _ _ => rfl) hp (fun _ _ => rfl) (fun i hi => by omega)
theorem md_back {M0 : mv_Mem} {F : mv_Mem → Prop} {a p L : Nat} (ht : 1 ≤ a ∧ a ≤ 136 ∧ mh_t a = 100) (hL : mh_l l a = L) (ha : a ≠ 88 ∧ a ≠ 136) (hk : M0 88 63 = 0) (hp : M0 88 64 = (p : Int)) (hpL : p + L ≤ 900) (hL1 : L ≤ 900)
    (h : ∀ M, (∀ b i, b ≠ a → ¬ (b = 88 ∧ i = 64) → M b i = M0 b i) → M 88 64 = ((p + L : Nat) : Int) → (∀ i, i < L → M a i = M0 136 (p + i)) → F M) :
    mv_Wp G 216 [.inr (.inr 88), .inr (.inr a)] (mh l) M0 (mv_qv (mh l) F) := by
  have key : ∀ (m k : Nat) (M : mv_Mem), k + m = L → (∀ b i, b ≠ a → ¬ (b = 88 ∧ i = 64) → M b i = M0 b i) → M 88 64 = ((p + k : Nat) : Int) → (∀ i, i < k → M a i = M0 136 (p + i)) →
      mv_Run G 216 136 7420 2 [(0, .inr (.inr 88)), (1, .inr (.inr a)), (2, .inl (k : Int))] [] (mh l) M (mv_qv (mh l) F) := by
    intro m
    induction m with
    | zero =>
      intro k M hk' f1 f2 f4
      refine vr_X12_passes_2 ?_
      have e : (mh l).2.2.2.1 a = L := hL
      have ht : 1 ≤ a ∧ a ≤ (mh l).1 ∧ (mh l).2.2.1 a = 100 := ht
      rw [if_pos ht.2, e, if_pos (by omega)]
      have ek : k = L := by omega
      subst ek
      exact mv_qv_i (h M f1 f2 f4)
    | succ m ih =>
      intro k M hk' f1 f2 f4
      refine vr_X12_passes_2 ?_
      have e : (mh l).2.2.2.1 a = L := hL
      have ht : 1 ≤ a ∧ a ≤ (mh l).1 ∧ (mh l).2.2.1 a = 100 := ht
      have e63 : M 88 63 = 0 := (f1 88 63 (by omega) (by decide)).trans hk
      rw [if_pos ht.2, e, if_neg (by omega), if_pos e63, if_pos ht, f2, Int.toNat_natCast, Int.toNat_natCast, mv_up_c (show (88 : Nat) ≠ a by omega), f2, f1 136 (p + k) (by omega) (by omega)]
      refine ⟨by omega, by omega, by omega, by omega, ih (k + 1) _ (by omega) (fun b i h1 h2 => ?_) ?_ (fun i hi => ?_)⟩
      · rw [mv_up_n h2, mv_up_c h1]
        exact f1 b i h1 h2
      · rw [mv_up_s]
        omega
      · rw [mv_up_c (by omega)]
        by_cases y : i = k
        · rw [y, mv_up_s]
        · rw [mv_up_j (by omega)]
          exact f4 i (by omega)
  refine vw_X12_passes ?_
  exact key L 0 M0 (by omega) (fun _ _ _ _ => rfl) hp (fun i hi => by omega)
/-- one number -/
theorem md_keep1 {v : Int} {p : Nat} (hk : M 88 63 = 1) (hp : M 88 64 = (p : Int)) (hp9 : p ≤ 900) (h : F v (mv_up (mv_up M 136 p v) 88 64 ((p : Int) + 1))) : mv_Wp G 217 [.inr (.inr 88), .inl v] (mh l) M (mv_qi (mh l) F) := by
  refine vw_X12_passOne ?_
  rw [hk, if_neg (by decide), if_neg (by decide), hp, Int.toNat_natCast, mv_up_c (show (88 : Nat) ≠ 136 by decide), hp]
  exact ⟨by omega, by omega, mv_qi_i h⟩
theorem md_back1 {v : Int} {p : Nat} (hk : M 88 63 = 0) (hp : M 88 64 = (p : Int)) (hp9 : p ≤ 900) (h : F (M 136 p) (mv_up M 88 64 ((p : Int) + 1))) : mv_Wp G 217 [.inr (.inr 88), .inl v] (mh l) M (mv_qi (mh l) F) := by
  refine vw_X12_passOne ?_
  rw [if_pos hk, if_pos hk, hp, Int.toNat_natCast]
  exact ⟨by omega, by omega, mv_qi_i h⟩
/-- so far: rows rs and numbers zs are kept, the cursor at p -/
def sg_ki (M0 M : mv_Mem) (p : Nat) (rs : List (Nat × Nat × Nat)) (zs : List (Nat × Nat)) : Prop := (∀ b i, b ≠ 136 → ¬ (b = 88 ∧ i = 64) → M b i = M0 b i) ∧ M 88 64 = (p : Int) ∧ (∀ q, q ∈ rs → q.2.1 + q.2.2 ≤ p ∧ ∀ i, i < q.2.2 → M 136 (q.2.1 + i) = M0 q.1 i) ∧ ∀ q, q ∈ zs → q.2 < p ∧ M 136 q.2 = M0 88 q.1
/-- .. are back -/
def sg_bi (M0 M : mv_Mem) (p : Nat) (rs : List (Nat × Nat × Nat)) (zs : List (Nat × Nat)) : Prop := (∀ b i, b ≠ 88 → (∀ q, q ∈ rs → b ≠ q.1) → M b i = M0 b i) ∧ (∀ i, i ≠ 64 → (∀ q, q ∈ zs → i ≠ q.1) → M 88 i = M0 88 i) ∧ M 88 64 = (p : Int) ∧ (∀ q, q ∈ rs → ∀ i, i < q.2.2 → M q.1 i = M0 136 (q.2.1 + i)) ∧ ∀ q, q ∈ zs → M 88 q.1 = M0 136 q.2
theorem md_ki {M0 : mv_Mem} {F : mv_Mem → Prop} {a p L p' : Nat} {rs : List (Nat × Nat × Nat)} (ht : a ≤ 136 ∧ mh_t a = 100) (hL : mh_l l a = L) (ha : a ≠ 88 ∧ a ≠ 136) (hk : M0 88 63 = 1) (h' : p' = p + L) (hpL : p' ≤ 900) (hi : sg_ki M0 M p rs []) (h : ∀ M', sg_ki M0 M' p' ((a, p, L) :: rs) [] → F M') :
    mv_Wp G 216 [.inr (.inr 88), .inr (.inr a)] (mh l) M (mv_qv (mh l) F) := by
  subst h'
  obtain ⟨i1, i2, i3, i4⟩ := hi
  refine md_keep (p := p) (L := L) ht hL ha ((i1 88 63 (by decide) (by decide)).trans hk) i2 hpL (by omega) (fun M' f1 f2 f3 f4 => h M' ⟨fun b i h1 h2 => (f1 b i h1 h2).trans (i1 b i h1 h2), f2, fun q hq => ?_, fun q hq => by cases hq⟩)
  rcases List.mem_cons.1 hq with rfl | hq
  · exact ⟨Nat.le_refl _, fun i hi => (f4 i hi).trans (i1 a i ha.2 (by omega))⟩
  · obtain ⟨q1, q2⟩ := i3 q hq
    exact ⟨by omega, fun i hi => (f3 _ (by omega)).trans (q2 i hi)⟩
theorem md_bi {M0 : mv_Mem} {F : mv_Mem → Prop} {a p L p' : Nat} {rs : List (Nat × Nat × Nat)} (ht : 1 ≤ a ∧ a ≤ 136 ∧ mh_t a = 100) (hL : mh_l l a = L) (ha : a ≠ 88 ∧ a ≠ 136) (hn : ∀ q, q ∈ rs → q.1 ≠ a ∧ q.1 ≠ 88 ∧ q.1 ≠ 136) (hk : M0 88 63 = 0) (h' : p' = p + L) (hpL : p' ≤ 900) (hi : sg_bi M0 M p rs []) (h : ∀ M', sg_bi M0 M' p' ((a, p, L) :: rs) [] → F M') :
    mv_Wp G 216 [.inr (.inr 88), .inr (.inr a)] (mh l) M (mv_qv (mh l) F) := by
  subst h'
  obtain ⟨i1, i2, i4, i5, i6⟩ := hi
  refine md_back (p := p) (L := L) ht hL ha ((i2 63 (by decide) (fun q hq => by cases hq)).trans hk) i4 hpL (by omega) (fun M' f1 f2 f3 => h M' ⟨fun b i h1 h2 => (f1 b i (h2 (a, p, L) (List.mem_cons_self ..)) (fun z => h1 z.1)).trans (i1 b i h1 (fun q hq => h2 q (List.mem_cons_of_mem _ hq))), fun i h1 h2 => (f1 88 i (by omega) (fun z => h1 z.2)).trans (i2 i h1 (fun q hq => by cases hq)), f2, fun q hq => ?_, fun q hq => by cases hq⟩)
  rcases List.mem_cons.1 hq with rfl | hq
  · exact fun i hi => (f3 i hi).trans (i1 136 _ (by decide) (fun q hq z => (hn q hq).2.2 z.symm))
  · exact fun i hi => (f1 _ i (hn q hq).1 (fun z => (hn q hq).2.1 z.1)).trans (i5 q hq i hi)
theorem md_ki1 {M0 : mv_Mem} {v : Int} {s p p' : Nat} {rs : List (Nat × Nat × Nat)} {zs : List (Nat × Nat)} (hs : s ≠ 64) (hv : v = M 88 s) (hk : M0 88 63 = 1) (h' : p' = p + 1) (hp9 : p ≤ 900) (hi : sg_ki M0 M p rs zs) (h : ∀ M', sg_ki M0 (mv_up M' 88 s v) p' rs ((s, p) :: zs) → F v M') :
    mv_Wp G 217 [.inr (.inr 88), .inl v] (mh l) M (mv_qi (mh l) F) := by
  subst h'
  obtain ⟨i1, i2, i3, i4⟩ := hi
  have hv0 : v = M0 88 s := hv.trans (i1 88 s (by decide) (fun z => hs z.2))
  refine md_keep1 ((i1 88 63 (by decide) (by decide)).trans hk) i2 hp9 (h _ ⟨fun b i h1 h2 => ?_, ?_, fun q hq => ?_, fun q hq => ?_⟩)
  · by_cases y : b = 88 ∧ i = s
    · rw [y.1, y.2, mv_up_s]
      exact hv0
    · rw [mv_up_n y, mv_up_n h2, mv_up_c h1]
      exact i1 b i h1 h2
  · rw [mv_up_j (fun z => hs z.symm), mv_up_s]
    rfl
  · obtain ⟨q1, q2⟩ := i3 q hq
    refine ⟨by omega, fun i hi => ?_⟩
    rw [mv_up_c (by decide), mv_up_c (by decide), mv_up_j (by omega)]
    exact q2 i hi
  · rw [mv_up_c (by decide), mv_up_c (by decide)]
    rcases List.mem_cons.1 hq with rfl | hq
    · exact ⟨Nat.lt_succ_self _, by rw [mv_up_s]; exact hv0⟩
    · obtain ⟨q1, q2⟩ := i4 q hq
      refine ⟨by omega, ?_⟩
      rw [mv_up_j (by omega)]
      exact q2
theorem md_bi1 {M0 : mv_Mem} {v : Int} {s p p' : Nat} {rs : List (Nat × Nat × Nat)} {zs : List (Nat × Nat)} (hs : s ≠ 64 ∧ s ≠ 63) (hz : ∀ q, q ∈ zs → q.1 ≠ s ∧ q.1 ≠ 63 ∧ q.1 ≠ 64) (hn : ∀ q, q ∈ rs → q.1 ≠ 88 ∧ q.1 ≠ 136) (hk : M0 88 63 = 0) (h' : p' = p + 1) (hp9 : p ≤ 900) (hi : sg_bi M0 M p rs zs) (h : ∀ M', sg_bi M0 (mv_up M' 88 s (M0 136 p)) p' rs ((s, p) :: zs) → F (M0 136 p) M') :
    mv_Wp G 217 [.inr (.inr 88), .inl v] (mh l) M (mv_qi (mh l) F) := by
  subst h'
  obtain ⟨i1, i2, i3, i4, i5⟩ := hi
  have e : M 136 p = M0 136 p := i1 136 p (by decide) (fun q hq z => (hn q hq).2 z.symm)
  refine md_back1 ((i2 63 (by decide) (fun q hq z => (hz q hq).2.1 z.symm)).trans hk) i3 hp9 ?_
  rw [e]
  refine h _ ⟨fun b i h1 h2 => ?_, fun i h1 h2 => ?_, ?_, fun q hq i hi => ?_, fun q hq => ?_⟩
  · rw [mv_up_c h1, mv_up_c h1]
    exact i1 b i h1 h2
  · rw [mv_up_j (h2 (s, p) (List.mem_cons_self ..)), mv_up_j h1]
    exact i2 i h1 (fun q hq => h2 q (List.mem_cons_of_mem _ hq))
  · rw [mv_up_j (fun z => hs.1 z.symm), mv_up_s]
    rfl
  · rw [mv_up_c (hn q hq).1, mv_up_c (hn q hq).1]
    exact i4 q hq i hi
  · rcases List.mem_cons.1 hq with rfl | hq
    · exact mv_up_s
    · obtain ⟨q1, q2, q3⟩ := hz q hq
      rw [mv_up_j q1, mv_up_j q3]
      exact i5 q hq
/-- the acres held back -/
theorem md_kh {M0 : mv_Mem} {F : mv_Mem → Prop} {rs : List (Nat × Nat × Nat)} {zs : List (Nat × Nat)} (hk : M0 88 63 = 1) (h01 : ∀ k, k < 48 → M0 95 k = 0 ∨ M0 95 k = 1) (h : ∀ M', sg_ki M0 M' 628 ((95, 580, 48) :: rs) zs → F M') :
    ∀ (m k : Nat) (M : mv_Mem), k + m = 48 → sg_ki M0 M (580 + k) ((95, 580, k) :: rs) zs → mv_Run G 218 136 7420 283 [(0, .inr (.inr 88)), (1, .inl (k : Int))] [] (mh l) M (mv_qv (mh l) F) := by
  intro m
  induction m with
  | zero =>
    intro k M hk' hi
    refine vr_X12_passesAll_283 ?_
    have ek : k = 48 := by omega
    subst ek
    rw [if_pos (by decide)]
    exact mv_qv_i (h M hi)
  | succ m ih =>
    intro k M hk' hi
    refine vr_X12_passesAll_283 ?_
    obtain ⟨i1, i2, i3, i4⟩ := id hi
    have e63 : M 88 63 = 1 := (i1 88 63 (by decide) (by decide)).trans hk
    have e95 : M 95 k = M0 95 k := i1 95 k (by decide) (by omega)
    have nx : ∀ v : Int, v = M0 95 k → sg_ki M0 (mv_up (mv_up (mv_up M 136 (580 + k) v) 88 64 (((580 + k : Nat) : Int) + 1)) 95 k v) (580 + (k + 1)) ((95, 580, k + 1) :: rs) zs := by
      intro v hv
      refine ⟨fun b i h1 h2 => ?_, ?_, fun q hq => ?_, fun q hq => ?_⟩
      · by_cases y : b = 95 ∧ i = k
        · rw [y.1, y.2, mv_up_s]
          exact hv
        · rw [mv_up_n y, mv_up_n h2, mv_up_c h1]
          exact i1 b i h1 h2
      · rw [mv_up_c (by decide), mv_up_s]
        omega
      · rcases List.mem_cons.1 hq with rfl | hq
        · refine ⟨Nat.le_refl _, fun i hi => ?_⟩
          have hi : i < k + 1 := hi
          show (mv_up (mv_up (mv_up M 136 (580 + k) v) 88 64 (((580 + k : Nat) : Int) + 1)) 95 k v) 136 (580 + i) = M0 95 i
          rw [mv_up_c (by decide), mv_up_c (by decide)]
          by_cases y : i = k
          · rw [y, mv_up_s]
            exact hv
          · rw [mv_up_j (by omega)]
            exact (i3 (95, 580, k) (List.mem_cons_self ..)).2 i (by show i < k; omega)
        · obtain ⟨q1, q2⟩ := i3 q (List.mem_cons_of_mem _ hq)
          refine ⟨by omega, fun i hi => ?_⟩
          rw [mv_up_c (by decide), mv_up_c (by decide), mv_up_j (by omega)]
          exact q2 i hi
      · obtain ⟨q1, q2⟩ := i4 q hq
        refine ⟨by omega, ?_⟩
        rw [mv_up_c (by decide), mv_up_c (by decide), mv_up_j (by omega)]
        exact q2
    rw [if_neg (by omega), Int.toNat_natCast, e95]
    refine ⟨by omega, ?_⟩
    by_cases z : M0 95 k = 0
    · rw [if_pos z]
      refine md_keep1 e63 i2 (by omega) ?_
      rw [if_neg (by decide)]
      exact ⟨⟨by omega, by decide⟩, by omega, ih (k + 1) _ (by omega) (nx 0 z.symm)⟩
    · rw [if_neg z]
      refine md_keep1 e63 i2 (by omega) ?_
      rw [if_pos rfl]
      exact ⟨⟨by omega, by decide⟩, by omega, ih (k + 1) _ (by omega) (nx 1 (by have := h01 k (by omega); omega))⟩
theorem md_bh {M0 : mv_Mem} {F : mv_Mem → Prop} {rs : List (Nat × Nat × Nat)} {zs : List (Nat × Nat)} (hz : ∀ q, q ∈ zs → q.1 ≠ 63 ∧ q.1 ≠ 64) (hn : ∀ q, q ∈ rs → q.1 ≠ 88 ∧ q.1 ≠ 136 ∧ q.1 ≠ 95) (hk : M0 88 63 = 0) (h01 : ∀ k, k < 48 → M0 136 (580 + k) = 0 ∨ M0 136 (580 + k) = 1) (h : ∀ M', sg_bi M0 M' 628 ((95, 580, 48) :: rs) zs → F M') :
    ∀ (m k : Nat) (M : mv_Mem), k + m = 48 → sg_bi M0 M (580 + k) ((95, 580, k) :: rs) zs → mv_Run G 218 136 7420 283 [(0, .inr (.inr 88)), (1, .inl (k : Int))] [] (mh l) M (mv_qv (mh l) F) := by
  intro m
  induction m with
  | zero =>
    intro k M hk' hi
    refine vr_X12_passesAll_283 ?_
    have ek : k = 48 := by omega
    subst ek
    rw [if_pos (by decide)]
    exact mv_qv_i (h M hi)
  | succ m ih =>
    intro k M hk' hi
    refine vr_X12_passesAll_283 ?_
    obtain ⟨i1, i2, i3, i4, i5⟩ := id hi
    have e63 : M 88 63 = 0 := (i2 63 (by decide) (fun q hq z => (hz q hq).1 z.symm)).trans hk
    have e : M 136 (580 + k) = M0 136 (580 + k) := i1 136 _ (by decide) (fun q hq z => by
      rcases List.mem_cons.1 hq with rfl | hq
      · omega
      · exact (hn q hq).2.1 z.symm)
    have nx : ∀ v : Int, v = M0 136 (580 + k) → sg_bi M0 (mv_up (mv_up M 88 64 (((580 + k : Nat) : Int) + 1)) 95 k v) (580 + (k + 1)) ((95, 580, k + 1) :: rs) zs := by
      intro v hv
      refine ⟨fun b i h1 h2 => ?_, fun i h1 h2 => ?_, ?_, fun q hq i hi => ?_, fun q hq => ?_⟩
      · have b95 : b ≠ 95 := h2 (95, 580, k + 1) (List.mem_cons_self ..)
        rw [mv_up_c b95, mv_up_c h1]
        refine i1 b i h1 (fun q hq => ?_)
        rcases List.mem_cons.1 hq with rfl | hq
        · exact b95
        · exact h2 q (List.mem_cons_of_mem _ hq)
      · rw [mv_up_c (by decide), mv_up_j h1]
        exact i2 i h1 h2
      · rw [mv_up_c (by decide), mv_up_s]
        omega
      · rcases List.mem_cons.1 hq with rfl | hq
        · have hi : i < k + 1 := hi
          show (mv_up (mv_up M 88 64 (((580 + k : Nat) : Int) + 1)) 95 k v) 95 i = M0 136 (580 + i)
          by_cases y : i = k
          · rw [y, mv_up_s]
            exact hv
          · rw [mv_up_j y, mv_up_c (by decide)]
            exact i4 (95, 580, k) (List.mem_cons_self ..) i (by show i < k; omega)
        · obtain ⟨n1, n2, n3⟩ := hn q hq
          rw [mv_up_c n3, mv_up_c n1]
          exact i4 q (List.mem_cons_of_mem _ hq) i hi
      · rw [mv_up_c (by decide), mv_up_j (hz q hq).2]
        exact i5 q hq
    have h0 := h01 k (by omega)
    rw [if_neg (by omega), Int.toNat_natCast]
    refine ⟨by omega, ?_⟩
    split
    all_goals
      refine md_back1 e63 i3 (by omega) ?_
      rw [e]
      by_cases z : M0 136 (580 + k) = 1
      · rw [if_pos z]
        exact ⟨⟨by omega, by decide⟩, by omega, ih (k + 1) _ (by omega) (nx 1 z.symm)⟩
      · rw [if_neg z]
        exact ⟨⟨by omega, by decide⟩, by omega, ih (k + 1) _ (by omega) (nx 0 (by omega))⟩

theorem md_passK {M0 : mv_Mem} {F : mv_Mem → Prop} (hk : M0 88 63 = 1) (h01 : ∀ k, k < 48 → M0 95 k = 0 ∨ M0 95 k = 1) (h : ∀ M', sg_ki M0 M' 628 ((95, 580, 48) :: [(128, 565, 8), (127, 557, 8), (126, 549, 8), (125, 541, 8), (116, 523, 18), (115, 415, 108), (114, 307, 108), (113, 289, 18), (112, 283, 6), (111, 247, 36), (110, 241, 6), (109, 235, 6), (108, 229, 6), (107, 223, 6), (106, 217, 6), (105, 211, 6), (103, 208, 3), (99, 204, 4), (98, 184, 20), (97, 164, 20), (96, 144, 20), (93, 96, 48), (92, 48, 48), (91, 0, 48)]) [(55, 579), (37, 578), (36, 577), (23, 576), (17, 575), (9, 574), (8, 573)] → F M') : mv_Wp G 218 [.inr (.inr 88)] (mh l) M0 (mv_qv (mh l) F) := by
  have k0 : sg_ki M0 (mv_up M0 88 64 0) 0 [] [] := ⟨fun b i h1 h2 => mv_up_n h2, mv_up_s, fun q hq => absurd hq List.not_mem_nil, fun q hq => absurd hq List.not_mem_nil⟩
  refine vw_X12_passesAll ?_
  refine md_ki (a := 91) (p := 0) (L := 48) (p' := 48) (by decide) rfl (by decide) hk rfl (by decide) k0 (fun M1 k1 => ?_)
  refine md_ki (a := 92) (p := 48) (L := 48) (p' := 96) (by decide) rfl (by decide) hk rfl (by decide) k1 (fun M2 k2 => ?_)
  refine md_ki (a := 93) (p := 96) (L := 48) (p' := 144) (by decide) rfl (by decide) hk rfl (by decide) k2 (fun M3 k3 => ?_)
  refine md_ki (a := 96) (p := 144) (L := 20) (p' := 164) (by decide) rfl (by decide) hk rfl (by decide) k3 (fun M4 k4 => ?_)
  refine md_ki (a := 97) (p := 164) (L := 20) (p' := 184) (by decide) rfl (by decide) hk rfl (by decide) k4 (fun M5 k5 => ?_)
  refine md_ki (a := 98) (p := 184) (L := 20) (p' := 204) (by decide) rfl (by decide) hk rfl (by decide) k5 (fun M6 k6 => ?_)
  refine md_ki (a := 99) (p := 204) (L := 4) (p' := 208) (by decide) rfl (by decide) hk rfl (by decide) k6 (fun M7 k7 => ?_)
  refine md_ki (a := 103) (p := 208) (L := 3) (p' := 211) (by decide) rfl (by decide) hk rfl (by decide) k7 (fun M8 k8 => ?_)
  refine md_ki (a := 105) (p := 211) (L := 6) (p' := 217) (by decide) rfl (by decide) hk rfl (by decide) k8 (fun M9 k9 => ?_)
  refine md_ki (a := 106) (p := 217) (L := 6) (p' := 223) (by decide) rfl (by decide) hk rfl (by decide) k9 (fun M10 k10 => ?_)
  refine md_ki (a := 107) (p := 223) (L := 6) (p' := 229) (by decide) rfl (by decide) hk rfl (by decide) k10 (fun M11 k11 => ?_)
  refine md_ki (a := 108) (p := 229) (L := 6) (p' := 235) (by decide) rfl (by decide) hk rfl (by decide) k11 (fun M12 k12 => ?_)
  refine md_ki (a := 109) (p := 235) (L := 6) (p' := 241) (by decide) rfl (by decide) hk rfl (by decide) k12 (fun M13 k13 => ?_)
  refine md_ki (a := 110) (p := 241) (L := 6) (p' := 247) (by decide) rfl (by decide) hk rfl (by decide) k13 (fun M14 k14 => ?_)
  refine md_ki (a := 111) (p := 247) (L := 36) (p' := 283) (by decide) rfl (by decide) hk rfl (by decide) k14 (fun M15 k15 => ?_)
  refine md_ki (a := 112) (p := 283) (L := 6) (p' := 289) (by decide) rfl (by decide) hk rfl (by decide) k15 (fun M16 k16 => ?_)
  refine md_ki (a := 113) (p := 289) (L := 18) (p' := 307) (by decide) rfl (by decide) hk rfl (by decide) k16 (fun M17 k17 => ?_)
  refine md_ki (a := 114) (p := 307) (L := 108) (p' := 415) (by decide) rfl (by decide) hk rfl (by decide) k17 (fun M18 k18 => ?_)
  refine md_ki (a := 115) (p := 415) (L := 108) (p' := 523) (by decide) rfl (by decide) hk rfl (by decide) k18 (fun M19 k19 => ?_)
  refine md_ki (a := 116) (p := 523) (L := 18) (p' := 541) (by decide) rfl (by decide) hk rfl (by decide) k19 (fun M20 k20 => ?_)
  refine md_ki (a := 125) (p := 541) (L := 8) (p' := 549) (by decide) rfl (by decide) hk rfl (by decide) k20 (fun M21 k21 => ?_)
  refine md_ki (a := 126) (p := 549) (L := 8) (p' := 557) (by decide) rfl (by decide) hk rfl (by decide) k21 (fun M22 k22 => ?_)
  refine md_ki (a := 127) (p := 557) (L := 8) (p' := 565) (by decide) rfl (by decide) hk rfl (by decide) k22 (fun M23 k23 => ?_)
  refine md_ki (a := 128) (p := 565) (L := 8) (p' := 573) (by decide) rfl (by decide) hk rfl (by decide) k23 (fun M24 k24 => ?_)
  refine md_ki1 (s := 8) (p := 573) (p' := 574) (by decide) rfl hk rfl (by decide) k24 (fun M25 k25 => ?_)
  refine md_ki1 (s := 9) (p := 574) (p' := 575) (by decide) rfl hk rfl (by decide) k25 (fun M26 k26 => ?_)
  refine md_ki1 (s := 17) (p := 575) (p' := 576) (by decide) rfl hk rfl (by decide) k26 (fun M27 k27 => ?_)
  refine md_ki1 (s := 23) (p := 576) (p' := 577) (by decide) rfl hk rfl (by decide) k27 (fun M28 k28 => ?_)
  refine md_ki1 (s := 36) (p := 577) (p' := 578) (by decide) rfl hk rfl (by decide) k28 (fun M29 k29 => ?_)
  refine md_ki1 (s := 37) (p := 578) (p' := 579) (by decide) rfl hk rfl (by decide) k29 (fun M30 k30 => ?_)
  refine md_ki1 (s := 55) (p := 579) (p' := 580) (by decide) rfl hk rfl (by decide) k30 (fun M31 k31 => ?_)
  refine md_kh hk h01 h 48 0 _ (by omega) ?_
  obtain ⟨i1, i2, i3, i4⟩ := k31
  refine ⟨i1, i2, fun q hq => ?_, i4⟩
  rcases List.mem_cons.1 hq with rfl | hq
  · exact ⟨Nat.le_refl _, fun i hi => absurd hi (Nat.not_lt_zero i)⟩
  · exact i3 q hq
theorem md_passB {M0 : mv_Mem} {F : mv_Mem → Prop} (hk : M0 88 63 = 0) (h01 : ∀ k, k < 48 → M0 136 (580 + k) = 0 ∨ M0 136 (580 + k) = 1) (h : ∀ M', sg_bi M0 M' 628 ((95, 580, 48) :: [(128, 565, 8), (127, 557, 8), (126, 549, 8), (125, 541, 8), (116, 523, 18), (115, 415, 108), (114, 307, 108), (113, 289, 18), (112, 283, 6), (111, 247, 36), (110, 241, 6), (109, 235, 6), (108, 229, 6), (107, 223, 6), (106, 217, 6), (105, 211, 6), (103, 208, 3), (99, 204, 4), (98, 184, 20), (97, 164, 20), (96, 144, 20), (93, 96, 48), (92, 48, 48), (91, 0, 48)]) [(55, 579), (37, 578), (36, 577), (23, 576), (17, 575), (9, 574), (8, 573)] → F M') : mv_Wp G 218 [.inr (.inr 88)] (mh l) M0 (mv_qv (mh l) F) := by
  have k0 : sg_bi M0 (mv_up M0 88 64 0) 0 [] [] := ⟨fun b i h1 h2 => mv_up_c h1, fun i h1 h2 => mv_up_j h1, mv_up_s, fun q hq => absurd hq List.not_mem_nil, fun q hq => absurd hq List.not_mem_nil⟩
  refine vw_X12_passesAll ?_
  refine md_bi (a := 91) (p := 0) (L := 48) (p' := 48) (by decide) rfl (by decide) (by decide) hk rfl (by decide) k0 (fun M1 k1 => ?_)
  refine md_bi (a := 92) (p := 48) (L := 48) (p' := 96) (by decide) rfl (by decide) (by decide) hk rfl (by decide) k1 (fun M2 k2 => ?_)
  refine md_bi (a := 93) (p := 96) (L := 48) (p' := 144) (by decide) rfl (by decide) (by decide) hk rfl (by decide) k2 (fun M3 k3 => ?_)
  refine md_bi (a := 96) (p := 144) (L := 20) (p' := 164) (by decide) rfl (by decide) (by decide) hk rfl (by decide) k3 (fun M4 k4 => ?_)
  refine md_bi (a := 97) (p := 164) (L := 20) (p' := 184) (by decide) rfl (by decide) (by decide) hk rfl (by decide) k4 (fun M5 k5 => ?_)
  refine md_bi (a := 98) (p := 184) (L := 20) (p' := 204) (by decide) rfl (by decide) (by decide) hk rfl (by decide) k5 (fun M6 k6 => ?_)
  refine md_bi (a := 99) (p := 204) (L := 4) (p' := 208) (by decide) rfl (by decide) (by decide) hk rfl (by decide) k6 (fun M7 k7 => ?_)
  refine md_bi (a := 103) (p := 208) (L := 3) (p' := 211) (by decide) rfl (by decide) (by decide) hk rfl (by decide) k7 (fun M8 k8 => ?_)
  refine md_bi (a := 105) (p := 211) (L := 6) (p' := 217) (by decide) rfl (by decide) (by decide) hk rfl (by decide) k8 (fun M9 k9 => ?_)
  refine md_bi (a := 106) (p := 217) (L := 6) (p' := 223) (by decide) rfl (by decide) (by decide) hk rfl (by decide) k9 (fun M10 k10 => ?_)
  refine md_bi (a := 107) (p := 223) (L := 6) (p' := 229) (by decide) rfl (by decide) (by decide) hk rfl (by decide) k10 (fun M11 k11 => ?_)
  refine md_bi (a := 108) (p := 229) (L := 6) (p' := 235) (by decide) rfl (by decide) (by decide) hk rfl (by decide) k11 (fun M12 k12 => ?_)
  refine md_bi (a := 109) (p := 235) (L := 6) (p' := 241) (by decide) rfl (by decide) (by decide) hk rfl (by decide) k12 (fun M13 k13 => ?_)
  refine md_bi (a := 110) (p := 241) (L := 6) (p' := 247) (by decide) rfl (by decide) (by decide) hk rfl (by decide) k13 (fun M14 k14 => ?_)
  refine md_bi (a := 111) (p := 247) (L := 36) (p' := 283) (by decide) rfl (by decide) (by decide) hk rfl (by decide) k14 (fun M15 k15 => ?_)
  refine md_bi (a := 112) (p := 283) (L := 6) (p' := 289) (by decide) rfl (by decide) (by decide) hk rfl (by decide) k15 (fun M16 k16 => ?_)
  refine md_bi (a := 113) (p := 289) (L := 18) (p' := 307) (by decide) rfl (by decide) (by decide) hk rfl (by decide) k16 (fun M17 k17 => ?_)
  refine md_bi (a := 114) (p := 307) (L := 108) (p' := 415) (by decide) rfl (by decide) (by decide) hk rfl (by decide) k17 (fun M18 k18 => ?_)
  refine md_bi (a := 115) (p := 415) (L := 108) (p' := 523) (by decide) rfl (by decide) (by decide) hk rfl (by decide) k18 (fun M19 k19 => ?_)
  refine md_bi (a := 116) (p := 523) (L := 18) (p' := 541) (by decide) rfl (by decide) (by decide) hk rfl (by decide) k19 (fun M20 k20 => ?_)
  refine md_bi (a := 125) (p := 541) (L := 8) (p' := 549) (by decide) rfl (by decide) (by decide) hk rfl (by decide) k20 (fun M21 k21 => ?_)
  refine md_bi (a := 126) (p := 549) (L := 8) (p' := 557) (by decide) rfl (by decide) (by decide) hk rfl (by decide) k21 (fun M22 k22 => ?_)
  refine md_bi (a := 127) (p := 557) (L := 8) (p' := 565) (by decide) rfl (by decide) (by decide) hk rfl (by decide) k22 (fun M23 k23 => ?_)
  refine md_bi (a := 128) (p := 565) (L := 8) (p' := 573) (by decide) rfl (by decide) (by decide) hk rfl (by decide) k23 (fun M24 k24 => ?_)
  refine md_bi1 (s := 8) (p := 573) (p' := 574) (by decide) (by decide) (by decide) hk rfl (by decide) k24 (fun M25 k25 => ?_)
  refine md_bi1 (s := 9) (p := 574) (p' := 575) (by decide) (by decide) (by decide) hk rfl (by decide) k25 (fun M26 k26 => ?_)
  refine md_bi1 (s := 17) (p := 575) (p' := 576) (by decide) (by decide) (by decide) hk rfl (by decide) k26 (fun M27 k27 => ?_)
  refine md_bi1 (s := 23) (p := 576) (p' := 577) (by decide) (by decide) (by decide) hk rfl (by decide) k27 (fun M28 k28 => ?_)
  refine md_bi1 (s := 36) (p := 577) (p' := 578) (by decide) (by decide) (by decide) hk rfl (by decide) k28 (fun M29 k29 => ?_)
  refine md_bi1 (s := 37) (p := 578) (p' := 579) (by decide) (by decide) (by decide) hk rfl (by decide) k29 (fun M30 k30 => ?_)
  refine md_bi1 (s := 55) (p := 579) (p' := 580) (by decide) (by decide) (by decide) hk rfl (by decide) k30 (fun M31 k31 => ?_)
  refine md_bh (by decide) (by decide) hk h01 h 48 0 _ (by omega) ?_
  obtain ⟨i1, i2, i3, i4, i5⟩ := k31
  refine ⟨fun b i h1 h2 => i1 b i h1 (fun q hq => h2 q (List.mem_cons_of_mem _ hq)), i2, i3, fun q hq i hi => ?_, i5⟩
  rcases List.mem_cons.1 hq with rfl | hq
  · exact absurd hi (Nat.not_lt_zero i)
  · exact i4 q hq i hi
/-- the cells that count, no further than they are looked at -/
def sg_mb (a i : Nat) : Prop := (a = 88 ∧ (i = 8 ∨ i = 9 ∨ i = 23 ∨ i = 36 ∨ i = 37 ∨ i = 55)) ∨ ((91 ≤ a ∧ a ≤ 93) ∧ i < 48) ∨ (a = 95 ∧ i < 48) ∨ (a = 99 ∧ i < 4) ∨ ((a = 101 ∨ a = 102) ∧ i < 4) ∨ (a = 103 ∧ i < 3) ∨ (((105 ≤ a ∧ a ≤ 110) ∨ a = 112) ∧ i < 6) ∨ (a = 111 ∧ i < 36) ∨ ((a = 113 ∨ a = 116) ∧ i < 18) ∨ ((a = 114 ∨ a = 115) ∧ i < 108) ∨ ((125 ≤ a ∧ a ≤ 128) ∧ i < 8)
theorem sg_Mo_fb (hw : sg_wf S) {M' : mv_Mem} (h : sg_Mo S M) (hm : ∀ a i, sg_mb a i → M' a i = M a i) : sg_Mo S M' := by
  have hp8 := hw.1.2.2.2.2.2.1
  have hm3 := hw.1.2.2.1
  obtain ⟨⟨a1, a2, a3, a4, a5, a6⟩, b, b2, c, ⟨⟨d1, d2, d3, d4⟩, e1, e2, e3, e4⟩, f, g, hh, pr, j, p⟩ := h
  unfold sg_mb at hm
  refine ⟨⟨?_, ?_, ?_, ?_, ?_, ?_⟩, fun k hk => ?_, fun k hk hn => ?_, fun i hi => ?_, ⟨⟨?_, ?_, ?_, ?_⟩, ?_, ?_, ?_, ?_⟩, fun m hmk => ?_, fun i hi => ⟨?_, ?_, ?_, ?_, ?_, ?_, ?_⟩, fun i hi => ?_, fun i hi => ⟨?_, ?_⟩, fun i hi => ⟨?_, ?_⟩, fun q hq => ⟨?_, ?_, ?_, ?_⟩⟩
  · rw [hm 88 8 (by omega)]; exact a1
  · rw [hm 88 9 (by omega)]; exact a2
  · rw [hm 88 23 (by omega)]; exact a3
  · rw [hm 88 36 (by omega)]; exact a4
  · rw [hm 88 37 (by omega)]; exact a5
  · rw [hm 88 55 (by omega)]; exact a6
  · have k48 := sg_ok_48 hw hk
    rw [hm 91 k (by omega), hm 92 k (by omega), hm 93 k (by omega), hm 95 k (by omega)]
    exact b k hk
  · rw [hm 95 k (by omega)]; exact b2 k hk hn
  · rw [hm 99 i (by omega)]; exact c i hi
  · rw [hm 101 0 (by omega)]; exact d1
  · rw [hm 101 1 (by omega)]; exact d2
  · rw [hm 101 2 (by omega)]; exact d3
  · rw [hm 101 3 (by omega)]; exact d4
  · rw [hm 102 0 (by omega)]; exact e1
  · rw [hm 102 1 (by omega)]; exact e2
  · rw [hm 102 2 (by omega)]; exact e3
  · rw [hm 102 3 (by omega)]; exact e4
  · rw [hm 103 m (by omega)]; exact f m hmk
  · rw [hm 105 i (by omega)]; exact (g i hi).1
  · rw [hm 106 i (by omega)]; exact (g i hi).2.1
  · rw [hm 107 i (by omega)]; exact (g i hi).2.2.1
  · rw [hm 108 i (by omega)]; exact (g i hi).2.2.2.1
  · rw [hm 109 i (by omega)]; exact (g i hi).2.2.2.2.1
  · rw [hm 110 i (by omega)]; exact (g i hi).2.2.2.2.2.1
  · rw [hm 112 i (by omega)]; exact (g i hi).2.2.2.2.2.2
  · rw [hm 111 i (by omega)]; exact hh i hi
  · rw [hm 113 i (by omega)]; exact (pr i hi).1
  · rw [hm 116 i (by omega)]; exact (pr i hi).2
  · rw [hm 114 i (by omega)]; exact (j i hi).1
  · rw [hm 115 i (by omega)]; exact (j i hi).2
  · rw [hm 125 q (by omega)]; exact (p q hq).1
  · rw [hm 126 q (by omega)]; exact (p q hq).2.1
  · rw [hm 127 q (by omega)]; exact (p q hq).2.2.1
  · rw [hm 128 q (by omega)]; exact (p q hq).2.2.2
theorem sg_95 (hw : sg_wf S) (hM : sg_Mo S M) {k : Nat} (hk : k < 48) : M 95 k = 0 ∨ M 95 k = 1 := by
  by_cases hok : sg_ok S k
  · have h4 := hw.2.1.2.2.2.1 k hk
    rw [(hM.2.1 k hok).2.2.2]
    omega
  · exact Or.inl (hM.2.2.1 k hk hok)
theorem ma_image (hS : sg_oo c S) (h : sg_MM S M) (hF : ∀ M', sg_Y M M' → sg_MM (sa_image S).2 M' → F (sa_image S).1 M') : mv_Wp G 219 [.inr (.inr 88)] (mh l) M (mv_qi (mh l) F) := by
  have hw := hS.1
  have hM := h.1
  have hwd := hw.1.1
  have hht := hw.1.2.1
  unfold sa_image at hF
  refine vw_X12_image ⟨by decide, by decide, md_passK (by rw [mv_up_j (by decide), mv_up_s]) (fun k hk => ?_) (fun M' k1 => ?_)⟩
  · rw [mv_up_c (by decide), mv_up_c (by decide)]
    exact sg_95 hw hM hk
  · obtain ⟨i1, i2, i3, i4⟩ := k1
    have g : ∀ b i, b ≠ 136 → ¬ (b = 88 ∧ (i = 62 ∨ i = 63 ∨ i = 64)) → M' b i = M b i := fun b i h1 h2 => by
      rw [i1 b i h1 (by omega), mv_up_n (by omega), mv_up_n (by omega)]
    have e8 : M' 88 8 = S 0 0 := (g 88 8 (by decide) (by decide)).trans hM.1.1
    have e9 : M' 88 9 = S 0 1 := (g 88 9 (by decide) (by decide)).trans hM.1.2.1
    have e62 : M' 88 62 = 1 := by
      rw [i1 88 62 (by decide) (by decide), mv_up_s]
    have WH : 0 ≤ S 0 0 * S 0 1 ∧ S 0 0 * S 0 1 ≤ 48 := by
      obtain ⟨w, ew⟩ := sg_nat (show 0 ≤ S 0 0 by omega)
      obtain ⟨x, ex⟩ := sg_nat (show 0 ≤ S 0 1 by omega)
      rw [ew, ex]
      have h1 : w * x ≤ 8 * 6 := Nat.mul_le_mul (by omega) (by omega)
      have h2 : ((w * x : Nat) : Int) = (w : Int) * (x : Int) := Int.natCast_mul w x
      omega
    rw [e8, e9]
    refine ⟨by omega, mv_qi_i (hF M' (fun b i hb => g b i (by omega) (by omega)) ?_)⟩
    obtain ⟨h1, h1b, h2, h3, h4, h5, h6, h7, h8⟩ := h
    have hsw : sg_sw S (fun a i => if a = 35 ∧ i = 0 then 1 else if 40 ≤ a ∧ a ≤ 63 then S (a - 40) i else S a i) := fun a i ha => by
      show (if a = 35 ∧ i = 0 then (1 : Int) else if 40 ≤ a ∧ a ≤ 63 then S (a - 40) i else S a i) = S a i
      rw [if_neg (by omega), if_neg (by omega)]
    have hkp : sg_sw S (sg_kp (fun a i => if a = 35 ∧ i = 0 then 1 else if 40 ≤ a ∧ a ≤ 63 then S (a - 40) i else S a i)) := fun a i ha => by
      show (if 40 + a = 35 ∧ i = 0 then (1 : Int) else if 40 ≤ 40 + a ∧ 40 + a ≤ 63 then S (40 + a - 40) i else S (40 + a) i) = S a i
      rw [if_neg (by omega), if_pos (by omega), show 40 + a - 40 = a by omega]
    refine ⟨sg_sw_Mo hsw (sg_Mo_fr h1 (fun b i hb => g b i (by unfold sg_mc at hb; omega) (by unfold sg_mc at hb; omega))), sg_sw_Rl hsw (sg_Rl_fr h1b (g 88 17 (by decide) (by decide)) (fun b i a1 a2 => g b i (by omega) (by omega))), (g 88 7 (by decide) (by decide)).trans h2, fun i hi => (g 90 i (by decide) (by omega)).trans (h3 i hi), (g 88 60 (by decide) (by decide)).trans h4, fun i hi => (g 135 i (by decide) (by omega)).trans (h5 i hi), fun i hi => (g 89 i (by decide) (by omega)).trans (h6 i hi), e62, fun _ => ⟨M, sg_sw_Mo hkp h1, ?_, ⟨fun q hq i hi => ?_, fun q hq => ?_⟩⟩⟩
    · have r := sg_sw_Rl hkp h1b
      have e6 : sg_kp (fun a i => if a = 35 ∧ i = 0 then 1 else if 40 ≤ a ∧ a ≤ 63 then S (a - 40) i else S a i) 0 6 = S 0 6 := hkp 0 6 (by decide)
      rw [e6]
      exact r
    · have hq2 : q ∈ ((95, 580, 48) :: [(128, 565, 8), (127, 557, 8), (126, 549, 8), (125, 541, 8), (116, 523, 18), (115, 415, 108), (114, 307, 108), (113, 289, 18), (112, 283, 6), (111, 247, 36), (110, 241, 6), (109, 235, 6), (108, 229, 6), (107, 223, 6), (106, 217, 6), (105, 211, 6), (103, 208, 3), (99, 204, 4), (98, 184, 20), (97, 164, 20), (96, 144, 20), (93, 96, 48), (92, 48, 48), (91, 0, 48)]) := by
        unfold sg_Lk at hq
        simp only [List.mem_cons, List.not_mem_nil, or_false] at hq ⊢
        rcases hq with rfl | rfl | rfl | rfl | rfl | rfl | rfl | rfl | rfl | rfl | rfl | rfl | rfl | rfl | rfl | rfl | rfl | rfl | rfl | rfl | rfl | rfl | rfl | rfl | rfl <;> simp
      have hq3 : q.1 ≠ 88 := by
        unfold sg_Lk at hq
        simp only [List.mem_cons, List.not_mem_nil, or_false] at hq
        rcases hq with rfl | rfl | rfl | rfl | rfl | rfl | rfl | rfl | rfl | rfl | rfl | rfl | rfl | rfl | rfl | rfl | rfl | rfl | rfl | rfl | rfl | rfl | rfl | rfl | rfl <;> decide
      rw [(i3 q hq2).2 i hi, mv_up_c hq3, mv_up_c hq3]
    · have hq2 : q ∈ [(55, 579), (37, 578), (36, 577), (23, 576), (17, 575), (9, 574), (8, 573)] := by
        unfold sg_Lz at hq
        simp only [List.mem_cons, List.not_mem_nil, or_false] at hq ⊢
        rcases hq with rfl | rfl | rfl | rfl | rfl | rfl | rfl <;> simp
      have hq3 : q.1 ≠ 62 ∧ q.1 ≠ 63 := by
        unfold sg_Lz at hq
        simp only [List.mem_cons, List.not_mem_nil, or_false] at hq
        rcases hq with rfl | rfl | rfl | rfl | rfl | rfl | rfl <;> decide
      rw [(i4 q hq2).2, mv_up_j hq3.1, mv_up_j hq3.2]
theorem ma_on (hS : sg_oo c S) (hc : c ≤ 100000) (h : sg_MM S M) (hF : ∀ M', sg_Y M M' → sg_MM (sa_on S).2 M' → F (sa_on S).1 M') : mv_Wp G 220 [.inr (.inr 88)] (mh l) M (mv_qi (mh l) F) := by
  have hM := h.1
  have h35 := hS.2.2.2.2.2.1
  have c62 : M 88 62 = S 35 0 := h.2.2.2.2.2.2.2.1
  unfold sa_on at hF
  refine vw_X12_on ?_
  rw [c62]
  by_cases z : S 35 0 = 0
  · rw [if_pos z] at hF
    rw [if_pos z]
    exact md_no2 hS hc h _ (by decide) hF
  · rw [if_neg z] at hF
    rw [if_neg z]
    have z1 : S 35 0 = 1 := by omega
    have hk := hS.2.2.2.2.2.2 z1
    obtain ⟨N, n1, n2, n3, n4⟩ := h.2.2.2.2.2.2.2.2 z1
    have hwd := hk.1.1
    have hht := hk.1.2.1
    have hr12 := hk.1.2.2.2.2.2.2
    have up0 : ∀ a i, ¬ (a = 88 ∧ i = 63) → mv_up M 88 63 0 a i = M a i := fun a i q => mv_up_n q
    refine ⟨by decide, md_passB mv_up_s (fun k hk48 => ?_) (fun M' k1 => ?_)⟩
    · rw [up0 136 _ (by omega), n3 (95, 580, 48) (by unfold sg_Lk; simp) k hk48]
      exact sg_95 hk n1 hk48
    · obtain ⟨i1, i2, i3, i4, i5⟩ := k1
      have row : ∀ q, q ∈ sg_Lk → ∀ i, i < q.2.2 → M' q.1 i = N q.1 i := by
        intro q hq i hi
        have hq2 : q ∈ ((95, 580, 48) :: [(128, 565, 8), (127, 557, 8), (126, 549, 8), (125, 541, 8), (116, 523, 18), (115, 415, 108), (114, 307, 108), (113, 289, 18), (112, 283, 6), (111, 247, 36), (110, 241, 6), (109, 235, 6), (108, 229, 6), (107, 223, 6), (106, 217, 6), (105, 211, 6), (103, 208, 3), (99, 204, 4), (98, 184, 20), (97, 164, 20), (96, 144, 20), (93, 96, 48), (92, 48, 48), (91, 0, 48)]) := by
          have hq := hq
          unfold sg_Lk at hq
          simp only [List.mem_cons, List.not_mem_nil, or_false] at hq ⊢
          rcases hq with rfl | rfl | rfl | rfl | rfl | rfl | rfl | rfl | rfl | rfl | rfl | rfl | rfl | rfl | rfl | rfl | rfl | rfl | rfl | rfl | rfl | rfl | rfl | rfl | rfl <;> simp
        rw [i4 q hq2 i hi, up0 136 _ (by omega)]
        exact n3 q hq i hi
      have one : ∀ q, q ∈ sg_Lz → M' 88 q.1 = N 88 q.1 := by
        intro q hq
        have hq2 : q ∈ [(55, 579), (37, 578), (36, 577), (23, 576), (17, 575), (9, 574), (8, 573)] := by
          have hq := hq
          unfold sg_Lz at hq
          simp only [List.mem_cons, List.not_mem_nil, or_false] at hq ⊢
          rcases hq with rfl | rfl | rfl | rfl | rfl | rfl | rfl <;> simp
        rw [i5 q hq2, up0 136 _ (by omega)]
        exact n4 q hq
      have g : ∀ b i, (b ≤ 87 ∨ b = 89 ∨ b = 90 ∨ b = 101 ∨ b = 102 ∨ 135 ≤ b) → M' b i = M b i := fun b i hb => by
        rw [i1 b i (by omega) (fun q hq => by
          simp only [List.mem_cons, List.not_mem_nil, or_false] at hq
          rcases hq with rfl | rfl | rfl | rfl | rfl | rfl | rfl | rfl | rfl | rfl | rfl | rfl | rfl | rfl | rfl | rfl | rfl | rfl | rfl | rfl | rfl | rfl | rfl | rfl | rfl <;> (show b ≠ _; omega)), up0 b i (by omega)]
      have g88 : ∀ i, (i = 7 ∨ i = 60 ∨ i = 62) → M' 88 i = M 88 i := fun i hi => by
        rw [i2 i (by omega) (fun q hq => by
          simp only [List.mem_cons, List.not_mem_nil, or_false] at hq
          rcases hq with rfl | rfl | rfl | rfl | rfl | rfl | rfl <;> (show i ≠ _; omega)), up0 88 i (by omega)]
      have o1 : sg_Mo (sg_kp S) M' := by
        refine sg_Mo_fb hk n1 (fun a i ha => ?_)
        unfold sg_mb at ha
        rcases ha with ⟨rfl, ha⟩ | ⟨ha, hi⟩ | ⟨rfl, hi⟩ | ⟨rfl, hi⟩ | ⟨ha, hi⟩ | ⟨rfl, hi⟩ | ⟨ha, hi⟩ | ⟨rfl, hi⟩ | ⟨ha, hi⟩ | ⟨ha, hi⟩ | ⟨ha, hi⟩
        · rcases ha with rfl | rfl | rfl | rfl | rfl | rfl
          · exact one (8, 573) (by unfold sg_Lz; simp)
          · exact one (9, 574) (by unfold sg_Lz; simp)
          · exact one (23, 576) (by unfold sg_Lz; simp)
          · exact one (36, 577) (by unfold sg_Lz; simp)
          · exact one (37, 578) (by unfold sg_Lz; simp)
          · exact one (55, 579) (by unfold sg_Lz; simp)
        · rcases (show a = 91 ∨ a = 92 ∨ a = 93 by omega) with rfl | rfl | rfl
          · exact row (91, 0, 48) (by unfold sg_Lk; simp) i hi
          · exact row (92, 48, 48) (by unfold sg_Lk; simp) i hi
          · exact row (93, 96, 48) (by unfold sg_Lk; simp) i hi
        · exact row (95, 580, 48) (by unfold sg_Lk; simp) i hi
        · exact row (99, 204, 4) (by unfold sg_Lk; simp) i hi
        · obtain ⟨⟨d1, d2, d3, d4⟩, e1, e2, e3, e4⟩ := hM.2.2.2.2.1
          obtain ⟨⟨d1', d2', d3', d4'⟩, e1', e2', e3', e4'⟩ := n1.2.2.2.2.1
          rw [g a i (by omega)]
          rcases ha with rfl | rfl
          · rcases (show i = 0 ∨ i = 1 ∨ i = 2 ∨ i = 3 by omega) with rfl | rfl | rfl | rfl <;> omega
          · rcases (show i = 0 ∨ i = 1 ∨ i = 2 ∨ i = 3 by omega) with rfl | rfl | rfl | rfl <;> omega
        · exact row (103, 208, 3) (by unfold sg_Lk; simp) i hi
        · rcases (show a = 105 ∨ a = 106 ∨ a = 107 ∨ a = 108 ∨ a = 109 ∨ a = 110 ∨ a = 112 by omega) with rfl | rfl | rfl | rfl | rfl | rfl | rfl
          · exact row (105, 211, 6) (by unfold sg_Lk; simp) i hi
          · exact row (106, 217, 6) (by unfold sg_Lk; simp) i hi
          · exact row (107, 223, 6) (by unfold sg_Lk; simp) i hi
          · exact row (108, 229, 6) (by unfold sg_Lk; simp) i hi
          · exact row (109, 235, 6) (by unfold sg_Lk; simp) i hi
          · exact row (110, 241, 6) (by unfold sg_Lk; simp) i hi
          · exact row (112, 283, 6) (by unfold sg_Lk; simp) i hi
        · exact row (111, 247, 36) (by unfold sg_Lk; simp) i hi
        · rcases ha with rfl | rfl
          · exact row (113, 289, 18) (by unfold sg_Lk; simp) i hi
          · exact row (116, 523, 18) (by unfold sg_Lk; simp) i hi
        · rcases ha with rfl | rfl
          · exact row (114, 307, 108) (by unfold sg_Lk; simp) i hi
          · exact row (115, 415, 108) (by unfold sg_Lk; simp) i hi
        · rcases (show a = 125 ∨ a = 126 ∨ a = 127 ∨ a = 128 by omega) with rfl | rfl | rfl | rfl
          · exact row (125, 541, 8) (by unfold sg_Lk; simp) i hi
          · exact row (126, 549, 8) (by unfold sg_Lk; simp) i hi
          · exact row (127, 557, 8) (by unfold sg_Lk; simp) i hi
          · exact row (128, 565, 8) (by unfold sg_Lk; simp) i hi
      have r1 : sg_Rl (sg_kp S) M' (sg_kp S 0 6).toNat := by
        refine sg_Rl_fn n2 ((one (17, 575) (by unfold sg_Lz; simp)).trans n2.2.1) (fun a i h1 h2 hi => ?_)
        rcases (show a = 96 ∨ a = 97 ∨ a = 98 by omega) with rfl | rfl | rfl
        · exact row (96, 144, 20) (by unfold sg_Lk; simp) i (by show i < 20; omega)
        · exact row (97, 164, 20) (by unfold sg_Lk; simp) i (by show i < 20; omega)
        · exact row (98, 184, 20) (by unfold sg_Lk; simp) i (by show i < 20; omega)
      have e8 : M' 88 8 = S 40 0 := o1.1.1
      have e9 : M' 88 9 = S 40 1 := o1.1.2.1
      have k00 : sg_kp S 0 0 = S 40 0 := rfl
      have k01 : sg_kp S 0 1 = S 40 1 := rfl
      rw [k00] at hwd
      rw [k01] at hht
      have WH : 0 ≤ S 40 0 * S 40 1 ∧ S 40 0 * S 40 1 ≤ 48 := by
        obtain ⟨w, ew⟩ := sg_nat (show 0 ≤ S 40 0 by omega)
        obtain ⟨x, ex⟩ := sg_nat (show 0 ≤ S 40 1 by omega)
        rw [ew, ex]
        have h1 : w * x ≤ 8 * 6 := Nat.mul_le_mul (by omega) (by omega)
        have h2 : ((w * x : Nat) : Int) = (w : Int) * (x : Int) := Int.natCast_mul w x
        omega
      rw [e8, e9]
      refine ⟨by omega, mv_qi_i (hF M' (fun b i hb => g b i (by omega)) ?_)⟩
      have hsw : sg_sw (sg_kp S) (fun a i => if a ≤ 23 then S (40 + a) i else S a i) := fun a i ha => by
        show (if a ≤ 23 then S (40 + a) i else S a i) = S (40 + a) i
        rw [if_pos ha]
      have hkp : sg_kp (fun a i => if a ≤ 23 then S (40 + a) i else S a i) = sg_kp S := by
        funext a i
        show (if 40 + a ≤ 23 then S (40 + (40 + a)) i else S (40 + a) i) = S (40 + a) i
        rw [if_neg (by omega)]
      obtain ⟨h1, h1b, h2, h3, h4, h5, h6, h7, h8⟩ := h
      refine ⟨sg_sw_Mo hsw o1, sg_sw_Rl hsw r1, (g88 7 (by decide)).trans h2, fun i hi => (g 90 i (by omega)).trans (h3 i hi), (g88 60 (by decide)).trans h4, fun i hi => (g 135 i (by omega)).trans (h5 i hi), fun i hi => (g 89 i (by omega)).trans (h6 i hi), (g88 62 (by decide)).trans h7, fun z => ?_⟩
      dsimp only
      rw [hkp]
      exact sg_Ki_fr (h8 z1) (fun i => g 136 i (by omega))
end MQ2
