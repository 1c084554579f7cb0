/-! THE CLASS's SEARCH OF WAYS -/
/-- the tables of the search: what lies beside, what a step costs (in the cell b) -/
def sg_tb (S M : mv_Mem) (wk : Bool) (b : Nat) : Prop := ∀ k d, sg_ok S k → d < 4 → M 39 (4 * sg_pl S k + d) = sg_pb S k d ∧ (sg_has S k d → M b (4 * sg_pl S k + d) = sg_fee S wk k d)
/-- a cell that may be searched in: of at least n ints -/
def sg_ar (l b n : Nat) : Prop := 1 ≤ b ∧ b ≤ (mh l).1 ∧ (mh l).2.2.1 b = 100 ∧ n ≤ (mh l).2.2.2.1 b
/-- far holds f from e on; all else is as in M0 -/
def sg_fr (S M0 M : mv_Mem) (c e : Nat) (f : Nat → Int) : Prop := (∀ k, sg_ok S k → M c (e + sg_pl S k) = f k) ∧ ∀ a i, ¬ (a = c ∧ e ≤ i ∧ (i : Int) < e + S 0 0 * S 0 1) → M a i = M0 a i
section SE
variable {S : mv_Mem} {wk : Bool} {G : mv_G} {l : Nat}
theorem sg_fr_tb {M0 M : mv_Mem} {b c e : Nat} {f : Nat → Int} (hf : sg_fr S M0 M c e f) (hb : b ≠ c) (h39 : 39 ≠ c) (h : sg_tb S M0 wk b) : sg_tb S M wk b := by
  intro k d hk hd
  rw [hf.2 39 _ (fun q => h39 q.1), hf.2 b _ (fun q => hb q.1)]
  exact h k d hk hd
theorem sg_fr_u (hw : sg_wf S) {M0 M : mv_Mem} {c e k : Nat} {f : Nat → Int} {v : Int} (hf : sg_fr S M0 M c e f) (hk : sg_ok S k) : sg_fr S M0 (mv_up M c (e + sg_pl S k) v) c e (sg_upf f k v) := by
  refine ⟨fun j hj => ?_, fun a i h => ?_⟩
  · by_cases q : j = k
    · subst q
      rw [mv_up_s, sg_upf_s]
    · rw [mv_up_n (fun z => q (sg_pl_inj hw hj hk (by omega))), sg_upf_n q]
      exact hf.1 j hj
  · rw [mv_up_n (fun z => h ⟨z.1, by omega, by have := (sg_pl_lt hw hk).1; omega⟩)]
    exact hf.2 a i h
theorem cl_leastFrom (hw : sg_wf S) {M : mv_Mem} {F : Int → mv_Mem → Prop} {b c e k : Nat} {f : Nat → Int} (hk : sg_ok S k) (ht : sg_tb S M wk b) (hb : sg_ar l b 192) (hc : sg_ar l c (e + 48)) (he : e ≤ 96) (hf : ∀ j, sg_ok S j → M c (e + sg_pl S j) = f j) (hf0 : ∀ j, sg_ok S j → 0 ≤ f j ∧ f j ≤ 268435456)
    (h : ∀ x, x ≤ 268435456 → (∀ d, d < 4 → sg_has S k d → x ≤ sg_fee S wk k d + f (sg_nx k d)) → (x = 268435456 ∨ ∃ d, d < 4 ∧ sg_has S k d ∧ x = sg_fee S wk k d + f (sg_nx k d)) → F x M) :
    mv_Wp G 72 [.inr (.inr 35), .inl (sg_pl S k : Int), .inr (.inr b), .inr (.inr c), .inl (e : Int)] (mh l) M (mv_qi (mh l) F) := by
  have hp := (sg_pl_lt hw hk).2
  obtain ⟨b1, b2, b3, b4⟩ := hb
  obtain ⟨c1, c2, c3, c4⟩ := hc
  have key : ∀ (n d : Nat) (x : Int), d + n = 4 → x ≤ 268435456 → (∀ j, j < d → sg_has S k j → x ≤ sg_fee S wk k j + f (sg_nx k j)) → (x = 268435456 ∨ ∃ j, j < 4 ∧ sg_has S k j ∧ x = sg_fee S wk k j + f (sg_nx k j)) →
      mv_Run G 72 87 4749 9 [(0, .inr (.inr 35)), (1, .inl (sg_pl S k : Int)), (2, .inr (.inr b)), (3, .inr (.inr c)), (4, .inl (e : Int)), (5, .inl x), (6, .inl ((4 * sg_pl S k + d : Nat) : Int))] [] (mh l) M (mv_qi (mh l) F) := by
    intro n
    induction n with
    | zero =>
      intro d x hd hx h1 h2
      refine vr_X8_leastFrom_9 ?_
      rw [if_pos (by omega)]
      exact ⟨by omega, by omega, mv_qi_i (h x hx (fun j hj => h1 j (by omega)) h2)⟩
    | succ n ih =>
      intro d x hd hx h1 h2
      refine vr_X8_leastFrom_9 ?_
      obtain ⟨t1, t2⟩ := ht k d hk (by omega)
      rw [if_neg (by omega), Int.toNat_natCast, t1]
      refine ⟨by omega, by omega, by omega, ?_⟩
      by_cases hh : sg_has S k d
      · obtain ⟨e1, ho⟩ := sg_pb_yes hw hk hh (by omega)
        have hq := (sg_pl_lt hw ho).2
        have hfn := hf _ ho
        have hf1 := hf0 _ ho
        have hfee := sg_fee_b hw (wk := wk) hk (by omega) hh
        have gb : b ≤ (mh l).1 ∧ (mh l).2.2.1 b = 100 := ⟨b2, b3⟩
        have gc : c ≤ (mh l).1 ∧ (mh l).2.2.1 c = 100 := ⟨c2, c3⟩
        rw [e1, if_neg (by omega)]
        simp only [if_pos gb, if_pos gc]
        rw [show Int.toNat ((e : Int) + (sg_pl S (sg_nx k d) : Int)) = e + sg_pl S (sg_nx k d) by omega, hfn, t2 hh]
        refine ⟨by omega, by omega, by omega, by omega, ?_⟩
        split
        · rename_i q
          refine ⟨by omega, ih (d + 1) x (by omega) hx (fun j hj hjh => ?_) h2⟩
          rcases Nat.lt_or_ge j d with z | z
          · exact h1 j z hjh
          · rw [show j = d by omega]
            exact q
        · rename_i q
          refine ⟨by omega, by omega, by omega, by omega, by omega, ih (d + 1) _ (by omega) (by omega) (fun j hj hjh => ?_) (Or.inr ⟨d, by omega, hh, rfl⟩)⟩
          rcases Nat.lt_or_ge j d with z | z
          · have := h1 j z hjh
            omega
          · rw [show j = d by omega]
            exact Int.le_refl _
      · rw [sg_pb_no hh, if_pos rfl]
        refine ⟨by omega, ih (d + 1) x (by omega) hx (fun j hj hjh => ?_) h2⟩
        rcases Nat.lt_or_ge j d with z | z
        · exact h1 j z hjh
        · rw [show j = d by omega] at hjh
          exact absurd hjh hh
  refine vw_X8_leastFrom ?_
  have K := key 4 0 268435456 rfl (by omega) (fun j hj => by omega) (Or.inl rfl)
  rw [show ((4 * sg_pl S k + 0 : Nat) : Int) = (sg_pl S k : Int) * 4 by omega] at K
  exact ⟨by omega, K⟩
end SE
/-! how many are not yet exact -/
def sg_cnt (S : mv_Mem) (f D : Nat → Int) : Nat → Nat
  | 0 => 0
  | n + 1 => sg_cnt S f D n + (if ((n % 8 : Nat) : Int) < S 0 0 ∧ ((n / 8 : Nat) : Int) < S 0 1 ∧ ¬ f n ≤ D n then 1 else 0)
theorem sg_cnt_n (S : mv_Mem) (f D : Nat → Int) : ∀ n, sg_cnt S f D n ≤ n
  | 0 => Nat.le_refl 0
  | n + 1 => by
    have := sg_cnt_n S f D n
    unfold sg_cnt
    split <;> omega
theorem sg_cnt_1 {S : mv_Mem} {f D : Nat → Int} {k : Nat} (h : f k ≤ D k) : ∀ n, k < n → sg_cnt S f D n + 1 ≤ n
  | 0, hk => by omega
  | n + 1, hk => by
    unfold sg_cnt
    by_cases q : k = n
    · subst q
      rw [if_neg (fun z => z.2.2 h)]
      have := sg_cnt_n S f D k
      omega
    · have := sg_cnt_1 h (S := S) n (by omega)
      split <;> omega
theorem sg_cnt_le {S : mv_Mem} {f f' D : Nat → Int} (h : ∀ k, sg_ok S k → f' k ≤ f k) : ∀ n, sg_cnt S f' D n ≤ sg_cnt S f D n
  | 0 => Nat.le_refl 0
  | n + 1 => by
    have h1 := sg_cnt_le h (D := D) n
    unfold sg_cnt
    by_cases q : ((n % 8 : Nat) : Int) < S 0 0 ∧ ((n / 8 : Nat) : Int) < S 0 1 ∧ ¬ f' n ≤ D n
    · have h2 := h n ⟨q.1, q.2.1⟩
      rw [if_pos q, if_pos ⟨q.1, q.2.1, by omega⟩]
      omega
    · rw [if_neg q]
      split <;> omega
theorem sg_cnt_lt {S : mv_Mem} {f f' D : Nat → Int} (h : ∀ k, sg_ok S k → f' k ≤ f k) {k : Nat} (hk : sg_ok S k) (h1 : ¬ f k ≤ D k) (h2 : f' k ≤ D k) : ∀ n, k < n → sg_cnt S f' D n < sg_cnt S f D n
  | 0, hk => by omega
  | n + 1, hkn => by
    unfold sg_cnt
    by_cases q : k = n
    · subst q
      have h3 := sg_cnt_le h (D := D) k
      rw [if_neg (fun z => z.2.2 h2), if_pos ⟨hk.1, hk.2, h1⟩]
      omega
    · have h3 := sg_cnt_lt h hk h1 h2 n (by omega)
      by_cases q2 : ((n % 8 : Nat) : Int) < S 0 0 ∧ ((n / 8 : Nat) : Int) < S 0 1 ∧ ¬ f' n ≤ D n
      · have h4 := h n ⟨q2.1, q2.2.1⟩
        rw [if_pos q2, if_pos ⟨q2.1, q2.2.1, by omega⟩]
        omega
      · rw [if_neg q2]
        split <;> omega
theorem sg_cnt_0 {S : mv_Mem} {f D : Nat → Int} : ∀ n, sg_cnt S f D n = 0 → ∀ k, k < n → sg_ok S k → f k ≤ D k
  | 0, _, k, hk, _ => by omega
  | n + 1, h, k, hk, ho => by
    unfold sg_cnt at h
    by_cases q : k = n
    · subst q
      by_cases z : f k ≤ D k
      · exact z
      · rw [if_pos ⟨ho.1, ho.2, z⟩] at h
        omega
    · exact sg_cnt_0 n (by omega) k (by omega) ho
/-- if some are not exact, one of the nearest has its forerunner exact -/
theorem sg_next {S : mv_Mem} (hw : sg_wf S) {wk : Bool} {to : Nat} {f : Nat → Int} (hto : sg_ok S to) (hf0 : f to = 0) (hn : ¬ ∀ k, sg_ok S k → f k ≤ sg_way S wk to k) :
    ∃ k, sg_ok S k ∧ ¬ f k ≤ sg_way S wk to k ∧ ∃ d, d < 4 ∧ sg_has S k d ∧ sg_fee S wk k d + sg_way S wk to (sg_nx k d) ≤ sg_way S wk to k ∧ f (sg_nx k d) ≤ sg_way S wk to (sg_nx k d) := by
  obtain ⟨D0, D1, D2, D3⟩ := sg_way_IW hw wk hto
  have key : ∀ (n k : Nat), sg_ok S k → ¬ f k ≤ sg_way S wk to k → sg_way S wk to k < (n : Int) → ∃ k, sg_ok S k ∧ ¬ f k ≤ sg_way S wk to k ∧ ∃ d, d < 4 ∧ sg_has S k d ∧ sg_fee S wk k d + sg_way S wk to (sg_nx k d) ≤ sg_way S wk to k ∧ f (sg_nx k d) ≤ sg_way S wk to (sg_nx k d) := by
    intro n
    induction n with
    | zero => intro k hk _ h; have := D1 k hk; omega
    | succ n ih =>
      intro k hk hne hlt
      have hkt : k ≠ to := by
        intro q
        subst q
        rw [hf0, D0] at hne
        exact hne (Int.le_refl _)
      obtain ⟨d, hd, hh, hle⟩ := D3 k hk hkt
      by_cases q : f (sg_nx k d) ≤ sg_way S wk to (sg_nx k d)
      · exact ⟨k, hk, hne, d, hd, hh, hle, q⟩
      · have hfee := sg_fee_b hw (wk := wk) hk hd hh
        exact ih (sg_nx k d) (sg_nx_ok hw hk hd hh) q (by omega)
  obtain ⟨k, hk⟩ := Classical.not_forall.mp hn
  obtain ⟨hk, hne⟩ := Classical.not_imp.mp hk
  exact key ((sg_way S wk to k).toNat + 1) k hk hne (by omega)
theorem sg_low {S : mv_Mem} (hw : sg_wf S) {wk : Bool} {to : Nat} {f : Nat → Int} {big : Int} (hbig : 2376 < big) (hto : sg_ok S to) (hf0 : ∀ k, sg_ok S k → 0 ≤ f k) (ht : sg_tig S wk to big f) : ∀ (n k : Nat), sg_ok S k → f k < (n : Int) → sg_way S wk to k ≤ f k := by
  obtain ⟨D0, D1, D2, D3⟩ := sg_way_IW hw wk hto
  intro n
  induction n with
  | zero => intro k hk hn; have := hf0 k hk; omega
  | succ n ih =>
    intro k hk hn
    by_cases hkt : k = to
    · subst hkt
      rw [D0]
      exact hf0 k hk
    · rcases ht k hk hkt with h | ⟨d, hd, hh, hle⟩
      · have := (sg_way_b hw wk hto hk).2
        omega
      · have hb := sg_fee_b hw (wk := wk) hk hd hh
        have h1 := ih (sg_nx k d) (sg_nx_ok hw hk hd hh) (by omega)
        have h2 := D2 k d hk hd hh
        omega
theorem sg_pl_sur {S : mv_Mem} (hw : sg_wf S) {p : Nat} (hp : (p : Int) < S 0 0 * S 0 1) : ∃ k, sg_ok S k ∧ sg_pl S k = p := by
  obtain ⟨⟨⟨w1, w2⟩, ⟨h1, h2⟩, -⟩, -⟩ := hw
  obtain ⟨w, ew⟩ := sg_nat (show 0 ≤ S 0 0 by omega)
  obtain ⟨h, eh⟩ := sg_nat (show 0 ≤ S 0 1 by omega)
  rw [ew, eh, ← Int.natCast_mul] at hp
  have hp2 : p < w * h := by omega
  rw [ew] at w1 w2
  have hm := Nat.mod_lt p (show 0 < w by omega)
  have hd : p / w < h := Nat.div_lt_of_lt_mul hp2
  refine ⟨8 * (p / w) + p % w, ⟨by rw [ew]; omega, by rw [eh]; omega⟩, ?_⟩
  unfold sg_pl
  rw [ew, Int.toNat_natCast, show (8 * (p / w) + p % w) / 8 = p / w by omega, show (8 * (p / w) + p % w) % 8 = p % w by omega, Nat.mul_comm]
  exact Nat.div_add_mod p w
/-- what stays so during a search -/
def sg_iv (S : mv_Mem) (wk : Bool) (to : Nat) (f : Nat → Int) : Prop := f to = 0 ∧ (∀ k, sg_ok S k → 0 ≤ f k ∧ f k ≤ 268435456) ∧ sg_tig S wk to 268435456 f
/-- an acre that a sweep makes exact -/
def sg_qq (S : mv_Mem) (wk : Bool) (to : Nat) (f0 : Nat → Int) (k : Nat) : Prop := ∃ d, d < 4 ∧ sg_has S k d ∧ sg_fee S wk k d + sg_way S wk to (sg_nx k d) ≤ sg_way S wk to k ∧ f0 (sg_nx k d) ≤ sg_way S wk to (sg_nx k d)
section SF
variable {S : mv_Mem} {wk : Bool} {G : mv_G} {l : Nat}
/-- one acre of a sweep -/
theorem sg_turn (hw : sg_wf S) {to k : Nat} {f f0 : Nat → Int} {x : Int} (hto : sg_ok S to) (hk : sg_ok S k) (hi : sg_iv S wk to f) (hle : ∀ j, sg_ok S j → f j ≤ f0 j) (hx1 : ∀ d, d < 4 → sg_has S k d → x ≤ sg_fee S wk k d + f (sg_nx k d)) (hx2 : x = 268435456 ∨ ∃ d, d < 4 ∧ sg_has S k d ∧ x = sg_fee S wk k d + f (sg_nx k d)) :
    (f k ≤ x → (sg_qq S wk to f0 k → f k ≤ sg_way S wk to k)) ∧ (x < f k → sg_iv S wk to (sg_upf f k x) ∧ (∀ j, sg_ok S j → sg_upf f k x j ≤ f j) ∧ (sg_qq S wk to f0 k → x ≤ sg_way S wk to k)) := by
  obtain ⟨i0, i1, i2⟩ := hi
  have hq : sg_qq S wk to f0 k → x ≤ sg_way S wk to k := by
    rintro ⟨d, hd, hh, h1, h2⟩
    have h3 := hx1 d hd hh
    have h4 := hle _ (sg_nx_ok hw hk hd hh)
    omega
  refine ⟨fun h q => Int.le_trans h (hq q), fun h => ⟨?_, fun j hj => ?_, hq⟩⟩
  · rcases hx2 with hx2 | ⟨d, hd, hh, hx2⟩
    · have := (i1 k hk).2
      omega
    · rw [hx2] at h ⊢
      obtain ⟨s1, s2, s3, s4⟩ := sg_step hw (fun j hj => (i1 j hj).1) i0 i2 hk hd hh h
      refine ⟨s3, fun j hj => ⟨s2 j hj, ?_⟩, s4 (i1 k hk).2⟩
      unfold sg_upf
      split
      · have := (i1 k hk).2
        omega
      · exact (i1 j hj).2
  · unfold sg_upf
    split
    · rename_i q
      subst q
      omega
    · exact Int.le_refl _
/-- a sweep -/
theorem cl_sweep (hw : sg_wf S) {M0 : mv_Mem} {post : Option mv_V → mv_SH → mv_Mem → Prop} {b c e to n s : Nat} {f0 : Nat → Int} (hto : sg_ok S to) (hn : (n : Int) = S 0 0 * S 0 1) (ht : sg_tb S M0 wk b) (hb : sg_ar l b 192) (hc : sg_ar l c (e + 48)) (he : e ≤ 96) (hbc : b ≠ c) (h39 : 39 ≠ c) (hs : s < 48)
    (h : ∀ (M : mv_Mem) (f : Nat → Int) (x : Int), sg_fr S M0 M c e f → sg_iv S wk to f → (∀ j, sg_ok S j → f j ≤ f0 j) → (∀ k, sg_ok S k → sg_qq S wk to f0 k → f k ≤ sg_way S wk to k) → (x = 0 → sg_cls S wk f) →
      mv_Run G 71 87 4749 39 [(0, .inr (.inr 35)), (1, .inl (n : Int)), (3, .inr (.inr b)), (4, .inr (.inr c)), (5, .inl (e : Int)), (6, .inl x), (7, .inl ((s + 1 : Nat) : Int))] [] (mh l) M post) :
    ∀ (m i : Nat) (M : mv_Mem) (f : Nat → Int) (x : Int), i + m = n → sg_fr S M0 M c e f → sg_iv S wk to f → (∀ j, sg_ok S j → f j ≤ f0 j) →
      (∀ k, sg_ok S k → (if mv_and (s : Int) 1 = 0 then sg_pl S k < i else n - i ≤ sg_pl S k) → sg_qq S wk to f0 k → f k ≤ sg_way S wk to k) →
      (x = 0 → ∀ k d, sg_ok S k → (if mv_and (s : Int) 1 = 0 then sg_pl S k < i else n - i ≤ sg_pl S k) → d < 4 → sg_has S k d → f k ≤ sg_fee S wk k d + f (sg_nx k d)) →
      mv_Run G 71 87 4749 57 [(0, .inr (.inr 35)), (1, .inl (n : Int)), (3, .inr (.inr b)), (4, .inr (.inr c)), (5, .inl (e : Int)), (6, .inl x), (7, .inl (s : Int)), (8, .inl (i : Int))] [] (mh l) M post := by
  have hn48 : n ≤ 48 := by
    obtain ⟨⟨⟨w1, w2⟩, ⟨h1, h2⟩, -⟩, -⟩ := hw
    have : S 0 0 * S 0 1 ≤ 8 * 6 := Int.mul_le_mul w2 h2 (by omega) (by omega)
    omega
  obtain ⟨c1, c2, c3, c4⟩ := id hc
  intro m
  induction m with
  | zero =>
    intro i M f x him hf hi hle hq hx
    refine vr_X8_search_57 ?_
    rw [if_pos (by omega)]
    refine ⟨by omega, ?_⟩
    have hall : ∀ k, sg_ok S k → (if mv_and (s : Int) 1 = 0 then sg_pl S k < i else n - i ≤ sg_pl S k) := fun k hk => by
      have := (sg_pl_lt hw hk).1
      split <;> omega
    exact h M f x hf hi hle (fun k hk q => hq k hk (hall k hk) q) (fun q k d hk hd hh => hx q k d hk (hall k hk) hd hh)
  | succ m ih =>
    intro i M f x him hf hi hle hq hx
    refine vr_X8_search_57 ?_
    rw [if_neg (by omega)]
    have htM := sg_fr_tb hf hbc h39 ht
    have hgo : ∀ p : Nat, p < n → (if mv_and (s : Int) 1 = 0 then p = i else p = n - 1 - i) →
        mv_Wp G 72 [.inr (.inr 35), .inl (p : Int), .inr (.inr b), .inr (.inr c), .inl (e : Int)] (mh l) M (mv_qi (mh l) fun x2 M2 =>
          mv_R32 ((e : Int) + (p : Int)) ∧
          (if c ≤ (mh l).1 ∧ (mh l).2.2.1 c = 100 then (0 ≤ ((e : Int) + (p : Int) : Int) ∧ ((e : Int) + (p : Int) : Int) < (((mh l).2.2.2.1 c : Nat) : Int)) ∧
          (if (M2 c (Int.toNat ((e : Int) + (p : Int)))) ≤ x2 then
            mv_R32 ((i : Int) + 1) ∧
            mv_Run G 71 87 4749 57 [(0, .inr (.inr 35)), (1, .inl (n : Int)), (3, .inr (.inr b)), (4, .inr (.inr c)), (5, .inl (e : Int)), (6, .inl x), (7, .inl (s : Int)), (8, .inl ((i : Int) + 1))] [] (mh l) M2 post
          else
            mv_R32 ((e : Int) + (p : Int)) ∧
            (if 1 ≤ c ∧ c ≤ (mh l).1 ∧ (mh l).2.2.1 c = 100 then (0 ≤ ((e : Int) + (p : Int) : Int) ∧ ((e : Int) + (p : Int) : Int) < (((mh l).2.2.2.1 c : Nat) : Int)) ∧
            mv_R32 ((i : Int) + 1) ∧
            mv_Run G 71 87 4749 57 [(0, .inr (.inr 35)), (1, .inl (n : Int)), (3, .inr (.inr b)), (4, .inr (.inr c)), (5, .inl (e : Int)), (6, .inl 1), (7, .inl (s : Int)), (8, .inl ((i : Int) + 1))] [] (mh l) (mv_up M2 c (Int.toNat ((e : Int) + (p : Int))) x2) post else False)) else False)) := by
      intro p hp hpi
      obtain ⟨k, hk, hkp⟩ := sg_pl_sur hw (p := p) (by omega)
      subst hkp
      have hdone : ∀ j, sg_ok S j → (if mv_and (s : Int) 1 = 0 then sg_pl S j < i + 1 else n - (i + 1) ≤ sg_pl S j) → j = k ∨ (if mv_and (s : Int) 1 = 0 then sg_pl S j < i else n - i ≤ sg_pl S j) := by
        intro j hj hz
        by_cases q : mv_and (s : Int) 1 = 0
        · rw [if_pos q] at hpi hz ⊢
          by_cases z : sg_pl S j < i
          · exact Or.inr z
          · exact Or.inl (sg_pl_inj hw hj hk (by omega))
        · rw [if_neg q] at hpi hz ⊢
          by_cases z : n - i ≤ sg_pl S j
          · exact Or.inr z
          · exact Or.inl (sg_pl_inj hw hj hk (by omega))
      refine cl_leastFrom hw hk htM hb hc he hf.1 hi.2.1 (fun x2 hx0 hx1 hx2 => ?_)
      obtain ⟨g1, g2⟩ := sg_turn hw hto hk hi hle hx1 hx2
      have gc : c ≤ (mh l).1 ∧ (mh l).2.2.1 c = 100 := ⟨c2, c3⟩
      have gd : 1 ≤ c ∧ c ≤ (mh l).1 ∧ (mh l).2.2.1 c = 100 := ⟨c1, c2, c3⟩
      simp only [if_pos gc, if_pos gd]
      rw [show Int.toNat ((e : Int) + (sg_pl S k : Int)) = e + sg_pl S k by omega, hf.1 k hk]
      refine ⟨by omega, by omega, ?_⟩
      split
      · rename_i hcmp
        refine ⟨by omega, ih (i + 1) M f x (by omega) hf hi hle (fun j hj hz q => ?_) (fun q j d hj hz hd hh => ?_)⟩
        · rcases hdone j hj hz with rfl | z
          · exact g1 hcmp q
          · exact hq j hj z q
        · rcases hdone j hj hz with rfl | z
          · have := hx1 d hd hh
            omega
          · exact hx q j d hj z hd hh
      · rename_i hcmp
        obtain ⟨t1, t2, t3⟩ := g2 (by omega)
        refine ⟨by omega, by omega, by omega, ih (i + 1) _ (sg_upf f k x2) 1 (by omega) (sg_fr_u hw hf hk) t1 (fun j hj => Int.le_trans (t2 j hj) (hle j hj)) (fun j hj hz q => ?_) (fun q => by omega)⟩
        rcases hdone j hj hz with rfl | z
        · rw [sg_upf_s]
          exact t3 q
        · exact Int.le_trans (t2 j hj) (hq j hj z q)
    by_cases q : mv_and (s : Int) 1 = 0
    · rw [if_pos q]
      exact hgo i (by omega) (by rw [if_pos q])
    · rw [if_neg q]
      have K := hgo (n - 1 - i) (by omega) (by rw [if_neg q])
      rw [show ((n - 1 - i : Nat) : Int) = (n : Int) - 1 - (i : Int) by omega] at K
      exact ⟨by omega, by omega, K⟩
/-- all sweeps -/
theorem cl_sweeps (hw : sg_wf S) {M0 : mv_Mem} {F : mv_Mem → Prop} {b c e to n : Nat} (hto : sg_ok S to) (hn : (n : Int) = S 0 0 * S 0 1) (ht : sg_tb S M0 wk b) (hb : sg_ar l b 192) (hc : sg_ar l c (e + 48)) (he : e ≤ 96) (hbc : b ≠ c) (h39 : 39 ≠ c)
    (h : ∀ M, sg_fr S M0 M c e (sg_way S wk to) → F M) :
    ∀ (m s : Nat) (M : mv_Mem) (f : Nat → Int) (x : Int), s + m = 48 → sg_fr S M0 M c e f → sg_iv S wk to f → (sg_cnt S f (sg_way S wk to) 48 + s ≤ 47 ∨ sg_cnt S f (sg_way S wk to) 48 = 0) → (x = 0 → sg_cls S wk f) →
      mv_Run G 71 87 4749 39 [(0, .inr (.inr 35)), (1, .inl (n : Int)), (3, .inr (.inr b)), (4, .inr (.inr c)), (5, .inl (e : Int)), (6, .inl x), (7, .inl (s : Int))] [] (mh l) M (mv_qv (mh l) F) := by
  have hend : ∀ (M : mv_Mem) (f : Nat → Int), sg_fr S M0 M c e f → (∀ k, sg_ok S k → f k = sg_way S wk to k) → F M := fun M f hf hq => h M ⟨fun k hk => (hf.1 k hk).trans (hq k hk), hf.2⟩
  intro m
  induction m with
  | zero =>
    intro s M f x hsm hf hi hcnt hx
    refine vr_X8_search_39 ?_
    rw [if_pos (by omega)]
    refine mv_qv_i (hend M f hf (fun k hk => ?_))
    have h0 : sg_cnt S f (sg_way S wk to) 48 = 0 := by omega
    have h1 := sg_cnt_0 48 h0 k (sg_ok_48 hw hk) hk
    have h2 := sg_low hw (by decide) hto (fun k hk => (hi.2.1 k hk).1) hi.2.2 ((f k).toNat + 1) k hk (by have := (hi.2.1 k hk).1; omega)
    omega
  | succ m ih =>
    intro s M f x hsm hf hi hcnt hx
    refine vr_X8_search_39 ?_
    rw [if_neg (by omega)]
    split
    · rename_i q
      refine mv_qv_i (hend M f hf (fun k hk => ?_))
      exact sg_way_eq hw hto (sg_IW_of hw (big := 268435456) (by decide) hto hi.1 (fun k hk => (hi.2.1 k hk).1) (hx q) hi.2.2) hk
    · refine cl_sweep hw hto hn ht hb hc he hbc h39 (by omega) (f0 := f) (fun M' f' x' hf' hi' hle hq hx' => ?_) n 0 M f 0 (by omega) hf hi (fun j _ => Int.le_refl _) (fun k hk hz => ?_) (fun _ k d hk hz => ?_)
      · refine ih (s + 1) M' f' x' (by omega) hf' hi' ?_ hx'
        by_cases hall : ∀ k, sg_ok S k → f k ≤ sg_way S wk to k
        · refine Or.inr ?_
          have hz : ∀ j, sg_cnt S f' (sg_way S wk to) j = 0 := by
            intro j
            induction j with
            | zero => rfl
            | succ j ihj =>
              unfold sg_cnt
              rw [ihj, if_neg (fun z => z.2.2 (Int.le_trans (hle j ⟨z.1, z.2.1⟩) (hall j ⟨z.1, z.2.1⟩)))]
          exact hz 48
        · obtain ⟨k, hk, hne, d, hd, hh, g1, g2⟩ := sg_next hw hto hi.1 hall
          have hlt := sg_cnt_lt hle hk hne (hq k hk ⟨d, hd, hh, g1, g2⟩) 48 (sg_ok_48 hw hk)
          omega
      · have := (sg_pl_lt hw hk).1
        split at hz <;> omega
      · have := (sg_pl_lt hw hk).1
        split at hz <;> omega
theorem cl_search (hw : sg_wf S) {M0 : mv_Mem} {F : mv_Mem → Prop} {b c e to n : Nat} (hto : sg_ok S to) (hn : (n : Int) = S 0 0 * S 0 1) (ht : sg_tb S M0 wk b) (hb : sg_ar l b 192) (hc : sg_ar l c (e + 48)) (he : e ≤ 96) (hbc : b ≠ c) (h39 : 39 ≠ c)
    (h : ∀ M, sg_fr S M0 M c e (sg_way S wk to) → F M) : mv_Wp G 71 [.inr (.inr 35), .inl (n : Int), .inl (sg_pl S to : Int), .inr (.inr b), .inr (.inr c), .inl (e : Int)] (mh l) M0 (mv_qv (mh l) F) := by
  have hn48 : n ≤ 48 := by
    obtain ⟨⟨⟨w1, w2⟩, ⟨h1, h2⟩, -⟩, -⟩ := hw
    have : S 0 0 * S 0 1 ≤ 8 * 6 := Int.mul_le_mul w2 h2 (by omega) (by omega)
    omega
  obtain ⟨c1, c2, c3, c4⟩ := id hc
  have hpt := (sg_pl_lt hw hto).1
  have key : ∀ (m i : Nat) (M : mv_Mem), i + m = n → (∀ p, p < i → M c (e + p) = 268435456) → (∀ a j, ¬ (a = c ∧ e ≤ j ∧ (j : Int) < e + S 0 0 * S 0 1) → M a j = M0 a j) →
      mv_Run G 71 87 4749 3 [(0, .inr (.inr 35)), (1, .inl (n : Int)), (2, .inl (sg_pl S to : Int)), (3, .inr (.inr b)), (4, .inr (.inr c)), (5, .inl (e : Int)), (6, .inl (i : Int))] [] (mh l) M (mv_qv (mh l) F) := by
    intro m
    induction m with
    | zero =>
      intro i M him hp ho
      refine vr_X8_search_3 ?_
      have gd : 1 ≤ c ∧ c ≤ (mh l).1 ∧ (mh l).2.2.1 c = 100 := ⟨c1, c2, c3⟩
      simp only [if_pos gd]
      rw [if_pos (by omega), show Int.toNat ((e : Int) + (sg_pl S to : Int)) = e + sg_pl S to by omega]
      refine ⟨by omega, by omega, ?_⟩
      have hf : sg_fr S M0 (mv_up M c (e + sg_pl S to) 0) c e (fun k => if k = to then 0 else 268435456) := by
        refine ⟨fun k hk => ?_, fun a j hj => ?_⟩
        · dsimp only
          by_cases q : k = to
          · subst q
            rw [mv_up_s, if_pos rfl]
          · rw [if_neg q, mv_up_n (fun z => q (sg_pl_inj hw hk hto (by omega)))]
            have := (sg_pl_lt hw hk).1
            exact hp _ (by omega)
        · rw [mv_up_n (fun z => hj ⟨z.1, by omega, by omega⟩)]
          exact ho a j hj
      have hiv : sg_iv S wk to (fun k => if k = to then 0 else 268435456) := by
        refine ⟨if_pos rfl, fun k _ => ?_, fun k _ hne => Or.inl (if_neg hne)⟩
        dsimp only
        split <;> omega
      refine cl_sweeps hw hto hn ht hb hc he hbc h39 h 48 0 _ _ 1 (by omega) hf hiv (Or.inl ?_) (fun q => by omega)
      have D0 := (sg_way_IW hw wk hto).1
      have := sg_cnt_1 (S := S) (f := fun k => if k = to then 0 else 268435456) (D := sg_way S wk to) (k := to) (by rw [D0]; exact Int.le_of_eq (if_pos rfl)) 48 (sg_ok_48 hw hto)
      omega
    | succ m ih =>
      intro i M him hp ho
      refine vr_X8_search_3 ?_
      have gd : 1 ≤ c ∧ c ≤ (mh l).1 ∧ (mh l).2.2.1 c = 100 := ⟨c1, c2, c3⟩
      simp only [if_pos gd]
      rw [if_neg (by omega), show Int.toNat ((e : Int) + (i : Int)) = e + i by omega]
      refine ⟨by omega, by omega, by omega, ih (i + 1) _ (by omega) (fun p hp2 => ?_) (fun a j hj => ?_)⟩
      · by_cases q : p = i
        · subst q
          exact mv_up_s
        · rw [mv_up_n (fun z => q (by omega))]
          exact hp p (by omega)
      · rw [mv_up_n (fun z => hj ⟨z.1, by omega, by omega⟩)]
        exact ho a j hj
  refine vw_X8_search ?_
  exact key n 0 M0 (by omega) (fun p hp => by omega) (fun _ _ _ => rfl)
end SF
