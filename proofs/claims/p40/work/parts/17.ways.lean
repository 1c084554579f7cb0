/-! WAYS: the least sums, as the only solution of what they must fulfil -/
def sg_fee (S : mv_Mem) (wk : Bool) (k d : Nat) : Int := (if wk = true then 10 else S 6 (if S 5 (4 * k + d) = 4 then 0 else (S 5 (4 * k + d)).toNat)) + S 2 (sg_nx k d)
def sg_cls (S : mv_Mem) (wk : Bool) (g : Nat → Int) : Prop := ∀ k d, sg_ok S k → d < 4 → sg_has S k d → g k ≤ sg_fee S wk k d + g (sg_nx k d)
def sg_tig (S : mv_Mem) (wk : Bool) (to : Nat) (big : Int) (f : Nat → Int) : Prop := ∀ k, sg_ok S k → k ≠ to → f k = big ∨ ∃ d, d < 4 ∧ sg_has S k d ∧ sg_fee S wk k d + f (sg_nx k d) ≤ f k
/-- f is the way to an acre -/
def sg_IW (S : mv_Mem) (wk : Bool) (to : Nat) (f : Nat → Int) : Prop := f to = 0 ∧ (∀ k, sg_ok S k → 0 ≤ f k) ∧ sg_cls S wk f ∧ ∀ k, sg_ok S k → k ≠ to → ∃ d, d < 4 ∧ sg_has S k d ∧ sg_fee S wk k d + f (sg_nx k d) ≤ f k
section WY
variable {S : mv_Mem} {wk : Bool}
theorem sg_ok_48 (hw : sg_wf S) {k : Nat} (hk : sg_ok S k) : k < 48 := by
  have h := hw.1.2.1
  obtain ⟨k1, k2⟩ := hk
  omega
theorem sg_nx_ok (hw : sg_wf S) {k d : Nat} (hk : sg_ok S k) (hd : d < 4) (hh : sg_has S k d) : sg_ok S (sg_nx k d) := (sg_pb_yes hw hk hh hd).2
theorem sg_fee_b (hw : sg_wf S) {k d : Nat} (hk : sg_ok S k) (hd : d < 4) (hh : sg_has S k d) : 1 ≤ sg_fee S wk k d ∧ sg_fee S wk k d ≤ 198 := by
  have h48 := sg_ok_48 hw hk
  have hn := sg_ok_48 hw (sg_nx_ok hw hk hd hh)
  have h2 := hw.2.1.2.1 (sg_nx k d) hn
  have h5 := hw.2.1.2.2.2.2.1 (4 * k + d) (by omega)
  unfold sg_fee
  split
  · omega
  · have h6 := hw.2.1.2.2.2.2.2 (if S 5 (4 * k + d) = 4 then 0 else (S 5 (4 * k + d)).toNat) (by split <;> omega)
    omega
/-- a closed one is at most a tight one -/
theorem sg_least (hw : sg_wf S) {to : Nat} {f g : Nat → Int} (hg0 : g to = 0) (hg : sg_cls S wk g) (hf0 : ∀ k, sg_ok S k → 0 ≤ f k) (hf : ∀ k, sg_ok S k → k ≠ to → ∃ d, d < 4 ∧ sg_has S k d ∧ sg_fee S wk k d + f (sg_nx k d) ≤ f k) :
    ∀ (n k : Nat), sg_ok S k → f k < (n : Int) → g k ≤ f k := by
  intro n
  induction n with
  | zero => intro k hk hn; have := hf0 k hk; omega
  | succ n ih =>
    intro k hk hn
    by_cases hto : k = to
    · subst hto
      rw [hg0]
      exact hf0 k hk
    · obtain ⟨d, hd, hh, hle⟩ := hf k hk hto
      have hb := sg_fee_b hw (wk := wk) hk hd hh
      have h1 := ih (sg_nx k d) (sg_nx_ok hw hk hd hh) (by omega)
      have h2 := hg k d hk hd hh
      omega
theorem sg_uniq (hw : sg_wf S) {to : Nat} {f g : Nat → Int} (hf : sg_IW S wk to f) (hg : sg_IW S wk to g) {k : Nat} (hk : sg_ok S k) : f k = g k := by
  obtain ⟨f0, f1, f2, f3⟩ := hf
  obtain ⟨g0, g1, g2, g3⟩ := hg
  have h1 := sg_least hw g0 g2 f1 f3 ((f k).toNat + 1) k hk (by have := f1 k hk; omega)
  have h2 := sg_least hw f0 f2 g1 g3 ((g k).toNat + 1) k hk (by have := g1 k hk; omega)
  omega
/-- along a line of the grid a closed one grows by at most 198 an acre -/
theorem sg_far (hw : sg_wf S) {to : Nat} {g : Nat → Int} (hto : sg_ok S to) (hg0 : g to = 0) (hg : sg_cls S wk g) : ∀ (n k : Nat), sg_ok S k → (k % 8 - to % 8) + (to % 8 - k % 8) + (k / 8 - to / 8) + (to / 8 - k / 8) = n → g k ≤ 198 * (n : Int) := by
  intro n
  induction n with
  | zero =>
    intro k hk hn
    have : k = to := by omega
    rw [this, hg0]
    decide
  | succ n ih =>
    intro k hk hn
    have hk48 := sg_ok_48 hw hk
    have step : ∀ d, d < 4 → sg_has S k d → (sg_nx k d % 8 - to % 8) + (to % 8 - sg_nx k d % 8) + (sg_nx k d / 8 - to / 8) + (to / 8 - sg_nx k d / 8) = n → g k ≤ 198 * ((n + 1 : Nat) : Int) := by
      intro d hd hh hn2
      have h1 := ih (sg_nx k d) (sg_nx_ok hw hk hd hh) hn2
      have h2 := hg k d hk hd hh
      have h3 := sg_fee_b hw (wk := wk) hk hd hh
      omega
    obtain ⟨t1, t2⟩ := hto
    obtain ⟨k1, k2⟩ := hk
    have hw8 := hw.1.1
    by_cases c0 : k % 8 < to % 8
    · refine step 0 (by omega) ?_ ?_
      · unfold sg_has
        rw [if_pos rfl]
        omega
      · unfold sg_nx
        rw [if_pos rfl]
        omega
    · by_cases c1 : to % 8 < k % 8
      · refine step 1 (by omega) ?_ ?_
        · unfold sg_has
          rw [if_neg (by decide), if_pos rfl]
          omega
        · unfold sg_nx
          rw [if_neg (by decide), if_pos rfl]
          omega
      · by_cases c2 : k / 8 < to / 8
        · refine step 2 (by omega) ?_ ?_
          · unfold sg_has
            rw [if_neg (by decide), if_neg (by decide), if_pos rfl]
            omega
          · unfold sg_nx
            rw [if_neg (by decide), if_neg (by decide), if_pos rfl]
            omega
        · refine step 3 (by omega) ?_ ?_
          · unfold sg_has
            rw [if_neg (by decide), if_neg (by decide), if_neg (by decide)]
            omega
          · unfold sg_nx
            rw [if_neg (by decide), if_neg (by decide), if_neg (by decide)]
            omega
theorem sg_far_b (hw : sg_wf S) {to : Nat} {g : Nat → Int} (hto : sg_ok S to) (hg0 : g to = 0) (hg : sg_cls S wk g) {k : Nat} (hk : sg_ok S k) : g k ≤ 2376 := by
  have h1 := sg_far hw hto hg0 hg _ k hk rfl
  have := sg_ok_48 hw hk
  have := sg_ok_48 hw hto
  omega
/-- a closed one that is tight but for what is big yet is the way -/
theorem sg_IW_of (hw : sg_wf S) {to : Nat} {g : Nat → Int} {big : Int} (hbig : 2376 < big) (hto : sg_ok S to) (hg0 : g to = 0) (h0 : ∀ k, sg_ok S k → 0 ≤ g k) (hg : sg_cls S wk g) (ht : sg_tig S wk to big g) : sg_IW S wk to g := by
  refine ⟨hg0, h0, hg, fun k hk hne => ?_⟩
  rcases ht k hk hne with h | h
  · have := sg_far_b hw hto hg0 hg hk
    omega
  · exact h
def sg_upf (f : Nat → Int) (k : Nat) (v : Int) : Nat → Int := fun j => if j = k then v else f j
theorem sg_upf_s {f : Nat → Int} {k : Nat} {v : Int} : sg_upf f k v k = v := if_pos rfl
theorem sg_upf_n {f : Nat → Int} {k j : Nat} {v : Int} (h : j ≠ k) : sg_upf f k v j = f j := if_neg h
/-- a step of the search keeps what is so of it -/
theorem sg_step (hw : sg_wf S) {to k d : Nat} {f : Nat → Int} {big : Int} (h0 : ∀ j, sg_ok S j → 0 ≤ f j) (hf0 : f to = 0) (ht : sg_tig S wk to big f) (hk : sg_ok S k) (hd : d < 4) (hh : sg_has S k d) (hlt : sg_fee S wk k d + f (sg_nx k d) < f k) :
    k ≠ to ∧ (∀ j, sg_ok S j → 0 ≤ sg_upf f k (sg_fee S wk k d + f (sg_nx k d)) j) ∧ sg_upf f k (sg_fee S wk k d + f (sg_nx k d)) to = 0 ∧ (f k ≤ big → sg_tig S wk to big (sg_upf f k (sg_fee S wk k d + f (sg_nx k d)))) := by
  have hb := sg_fee_b hw (wk := wk) hk hd hh
  have hn := sg_nx_ok hw hk hd hh
  have hn0 := h0 _ hn
  have hne : k ≠ to := by
    intro q
    rw [q] at hlt
    rw [q] at hb hn0
    omega
  have hnk : sg_nx k d ≠ k := by
    intro q
    rw [q] at hlt
    omega
  refine ⟨hne, fun j hj => ?_, by rw [sg_upf_n (Ne.symm hne)]; exact hf0, fun hkb j hj hjt => ?_⟩
  · unfold sg_upf
    split
    · omega
    · exact h0 j hj
  · by_cases hjk : j = k
    · subst hjk
      refine Or.inr ⟨d, hd, hh, ?_⟩
      rw [sg_upf_s, sg_upf_n hnk]
      omega
    · rw [sg_upf_n hjk]
      rcases ht j hj hjt with h | ⟨d', hd', hh', h⟩
      · exact Or.inl h
      · refine Or.inr ⟨d', hd', hh', ?_⟩
        by_cases q : sg_nx j d' = k
        · rw [q, sg_upf_s]
          rw [q] at h
          omega
        · rw [sg_upf_n q]
          exact h
end WY
def sg_sum (f : Nat → Int) : Nat → Nat
  | 0 => 0
  | n + 1 => sg_sum f n + (f n).toNat
theorem sg_sum_c {f g : Nat → Int} : ∀ n, (∀ k, k < n → f k = g k) → sg_sum f n = sg_sum g n
  | 0, _ => rfl
  | n + 1, h => by
    unfold sg_sum
    rw [sg_sum_c n (fun k hk => h k (by omega)), h n (by omega)]
theorem sg_sum_u {f : Nat → Int} {k : Nat} {v : Int} (h0 : 0 ≤ v) (h : v < f k) : ∀ n, k < n → sg_sum (sg_upf f k v) n < sg_sum f n
  | 0, h => by omega
  | n + 1, hk => by
    unfold sg_sum
    by_cases q : k = n
    · subst q
      rw [sg_sum_c (g := f) k (fun j hj => sg_upf_n (by omega)), sg_upf_s]
      omega
    · rw [sg_upf_n (Ne.symm q)]
      have := sg_sum_u h0 h n (by omega)
      omega
theorem sg_IW_ex {S : mv_Mem} (hw : sg_wf S) (wk : Bool) {to : Nat} (hto : sg_ok S to) : ∃ f, sg_IW S wk to f := by
  have key : ∀ (n : Nat) (f : Nat → Int), sg_sum f 48 = n → f to = 0 → (∀ j, sg_ok S j → 0 ≤ f j ∧ f j ≤ 100000) → sg_tig S wk to 100000 f → ∃ g, sg_IW S wk to g := by
    intro n
    induction n using Nat.strongRecOn with
    | ind n ih =>
      intro f hn h0 hb ht
      by_cases hc : sg_cls S wk f
      · exact ⟨f, sg_IW_of hw (by decide) hto h0 (fun k hk => (hb k hk).1) hc ht⟩
      · unfold sg_cls at hc
        simp only [Classical.not_forall] at hc
        obtain ⟨k, d, hk, hd, hh, hlt⟩ := hc
        have hlt : sg_fee S wk k d + f (sg_nx k d) < f k := by omega
        obtain ⟨s1, s2, s3, s4⟩ := sg_step hw (fun j hj => (hb j hj).1) h0 ht hk hd hh hlt
        have hfb := sg_fee_b hw (wk := wk) hk hd hh
        have hn0 := (hb _ (sg_nx_ok hw hk hd hh)).1
        refine ih _ ?_ _ rfl s3 (fun j hj => ⟨s2 j hj, ?_⟩) (s4 (hb k hk).2)
        · rw [← hn]
          exact sg_sum_u (by omega) hlt 48 (sg_ok_48 hw hk)
        · unfold sg_upf
          split
          · have := (hb k hk).2
            omega
          · exact (hb j hj).2
  refine key _ (fun k => if k = to then 0 else 100000) rfl (if_pos rfl) (fun j _ => ?_) (fun k _ hne => Or.inl (if_neg hne))
  split <;> omega
/-- the way from an acre to another one: by roads, or (wk) on foot -/
noncomputable def sg_way (S : mv_Mem) (wk : Bool) (to k : Nat) : Int := Classical.epsilon (fun f => sg_IW S wk to f) k
theorem sg_way_IW {S : mv_Mem} (hw : sg_wf S) (wk : Bool) {to : Nat} (hto : sg_ok S to) : sg_IW S wk to (sg_way S wk to) := Classical.epsilon_spec (sg_IW_ex hw wk hto)
theorem sg_way_eq {S : mv_Mem} (hw : sg_wf S) {wk : Bool} {to : Nat} (hto : sg_ok S to) {f : Nat → Int} (hf : sg_IW S wk to f) {k : Nat} (hk : sg_ok S k) : f k = sg_way S wk to k := sg_uniq hw hf (sg_way_IW hw wk hto) hk
theorem sg_way_b {S : mv_Mem} (hw : sg_wf S) (wk : Bool) {to k : Nat} (hto : sg_ok S to) (hk : sg_ok S k) : 0 ≤ sg_way S wk to k ∧ sg_way S wk to k ≤ 2376 :=
  have h := sg_way_IW hw wk hto
  ⟨h.2.1 k hk, sg_far_b hw hto h.1 h.2.2.1 hk⟩
