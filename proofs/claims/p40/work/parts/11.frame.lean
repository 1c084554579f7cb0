/-! A SMALL WORLD WITHIN A LARGER ONE: what a call does where there are only the cells 1 .. n, it does where these are some of more cells -/
def mv_tr (io : Nat → Nat) : mv_V → mv_V
  | .inl x => .inl x
  | .inr (.inl x) => .inr (.inl x)
  | .inr (.inr k) => .inr (.inr (io k))
/-- the small world's addresses -/
def mv_gs (G : mv_G) (io : Nat → Nat) : mv_G := (G.1, G.2.1, (fun k => mg_a G (io k)), G.2.2.2)
def mv_mS (io : Nat → Nat) (sm : mv_SH) (M : mv_Mem) : mv_Mem := fun k i => if k ≤ sm.1 then M (io k) i else 0
/-- the larger world behind what became of the small one -/
abbrev mv_im (io ka : Nat → Nat) (sm : mv_SH) (K : Nat) : Prop := io (ka K) = K ∧ ka K ≤ sm.1
def mv_lS (io ka : Nat → Nat) (sh sm sm' : mv_SH) : mv_SH := (sh.1 + (sm'.1 - sm.1), sh.2.1 + (sm'.2.1 - sm.2.1), (fun K => if mv_im io ka sm' K then sm'.2.2.1 (ka K) else sh.2.2.1 K), (fun K => if mv_im io ka sm' K then sm'.2.2.2.1 (ka K) else sh.2.2.2.1 K), (fun K f => if mv_im io ka sm' K then io (sm'.2.2.2.2 (ka K) f) else sh.2.2.2.2 K f))
def mv_lM (io ka : Nat → Nat) (sm' : mv_SH) (M Mm : mv_Mem) : mv_Mem := fun K i => if mv_im io ka sm' K then Mm (ka K) i else M K i
/-- the cells of the small world lie so among the larger one's -/
def mv_In (io ka : Nat → Nat) (sh sm : mv_SH) : Prop :=
  io 0 = 0 ∧ (∀ k, ka (io k) = k) ∧ (∀ j, io (sm.1 + 1 + j) = sh.1 + 1 + j) ∧ (∀ k, k ≤ sm.1 → io k ≤ sh.1) ∧
  (∀ k, k ≤ sm.1 → sm.2.2.1 k = sh.2.2.1 (io k)) ∧ (∀ k, k ≤ sm.1 → sm.2.2.2.1 k = sh.2.2.2.1 (io k)) ∧ (∀ k f, k ≤ sm.1 → io (sm.2.2.2.2 k f) = sh.2.2.2.2 (io k) f) ∧ ∀ k, sm.1 < k → sm.2.2.2.1 k ≤ 100000
section FR
variable {G : mv_G} {io ka : Nat → Nat} {sh sm sm' : mv_SH} {M Mm : mv_Mem}
theorem mv_io_0 (hI : mv_In io ka sh sm) {k : Nat} (h : 1 ≤ k) : 1 ≤ io k := by
  obtain ⟨h0, h1, -⟩ := hI
  rcases Nat.eq_zero_or_pos (io k) with e | e
  · have := h1 k
    have := h1 0
    rw [h0] at this
    rw [e] at *
    omega
  · exact e
theorem mv_ad_s (hI : mv_In io ka sh sm) (k : Nat) : mv_ad (mv_gs G io) k = mv_ad G (io k) := by
  unfold mv_ad
  by_cases h : k = 0
  · subst h
    rw [if_pos rfl, if_pos hI.1]
    rfl
  · have := mv_io_0 hI (show 1 ≤ k by omega)
    rw [if_neg h, if_neg (by omega)]
    rfl
theorem mv_ct_s (hI : mv_In io ka sh sm) (v : mv_V) : mv_ct (mv_gs G io) v = mv_ct G (mv_tr io v) := by
  obtain x | x | x := v
  · rfl
  · rfl
  · exact congrArg Value.ref (mv_ad_s hI x)
theorem mv_ov_s {v : mv_V} : mv_ov (mv_tr io v) ↔ mv_ov v := by
  obtain x | x | x := v <;> rfl
theorem mg_A_s (hI : mv_In io ka sh sm) {q : Nat} (h : mg_A (mv_gs G io) q) : mg_A G q := by
  obtain ⟨k, h1, h2⟩ := h
  exact ⟨io k, mv_io_0 hI h1, h2⟩
/-- a cell of the small world is the cell of the larger one -/
theorem mv_ce_s (hI : mv_In io ka sh sm) {sL : mv_SH} {ML : mv_Mem} {k : Nat} (h1 : sm'.2.2.1 k = sL.2.2.1 (io k)) (h2 : sm'.2.2.2.1 k = sL.2.2.2.1 (io k)) (h3 : ∀ f, io (sm'.2.2.2.2 k f) = sL.2.2.2.2 (io k) f) (h4 : ∀ i, Mm k i = ML (io k) i) : mv_ce (mv_gs G io) sm' Mm k = mv_ce G sL ML (io k) := by
  unfold mv_ce
  rw [h1, h2]
  have e1 : (fun i => Int32.ofInt (Mm k i)) = (fun i => Int32.ofInt (ML (io k) i)) := funext fun i => by rw [h4 i]
  have e2 : (fun i => Int64.ofInt (Mm k i)) = (fun i => Int64.ofInt (ML (io k) i)) := funext fun i => by rw [h4 i]
  have e3 : mv_fv (mv_gs G io) sm' Mm (sL.2.2.1 (io k)) k = mv_fv G sL ML (sL.2.2.1 (io k)) (io k) := by
    funext f
    unfold mv_fv
    rw [← h3 f, h4 f, mv_ad_s hI]
    by_cases h : sm'.2.2.2.2 k f = 0
    · have e0 : io (sm'.2.2.2.2 k f) = 0 := by rw [h]; exact hI.1
      rw [if_pos h, if_pos e0]
    · have := mv_io_0 hI (show 1 ≤ sm'.2.2.2.2 k f by omega)
      rw [if_neg h, if_neg (show ¬ io (sm'.2.2.2.2 k f) = 0 by omega)]
  rw [e1, e2, e3]
  rfl
theorem mv_ws_1 {k : Nat} {q : Nat × va_E} (h : (mv_ws G sh M)[k]? = some q) : k < sh.1 ∧ q = (mg_a G (k + 1), mv_ce G sh M (k + 1)) := by
  unfold mv_ws at h
  rw [List.getElem?_map] at h
  by_cases hk : k < sh.1
  · rw [List.getElem?_range hk] at h
    exact ⟨hk, (Option.some.inj h).symm⟩
  · rw [List.getElem?_eq_none (by simp; omega)] at h
    cases h
theorem mv_ws_2 {k : Nat} (h1 : 1 ≤ k) (h2 : k ≤ sh.1) : (mv_ws G sh M)[k - 1]? = some (mg_a G k, mv_ce G sh M k) := by
  rw [mv_ws_get h1 h2]
  unfold mv_ad
  rw [if_neg (by omega)]
theorem mv_ws_a (hD : va_D (mg_A G) (mv_ws G sh M)) {i j : Nat} (hi : 1 ≤ i ∧ i ≤ sh.1) (hj : 1 ≤ j ∧ j ≤ sh.1) (h : mg_a G i = mg_a G j) : i = j := by
  have := hD.1 _ _ _ _ (mv_ws_2 (G := G) (M := M) hi.1 hi.2) (mv_ws_2 (G := G) (M := M) hj.1 hj.2) h
  omega
theorem mv_Wd_s (hI : mv_In io ka sh sm) {H : Heap} (h : mv_Wd G sh M H) : mv_Wd (mv_gs G io) sm (mv_mS io sm M) H := by
  obtain ⟨hP, hD, ⟨a1, a2, a3⟩, a4, a5⟩ := h
  obtain ⟨i0, i1, i2, i3, i4, i5, i6, i7⟩ := id hI
  have key : ∀ {k : Nat} {q : Nat × va_E}, (mv_ws (mv_gs G io) sm (mv_mS io sm M))[k]? = some q → k < sm.1 ∧ 1 ≤ io (k + 1) ∧ io (k + 1) ≤ sh.1 ∧ (mv_ws G sh M)[io (k + 1) - 1]? = some q ∧ q.1 = mg_a G (io (k + 1)) := by
    intro k q hq
    obtain ⟨h1, h2⟩ := mv_ws_1 hq
    have e1 := mv_io_0 hI (show 1 ≤ k + 1 by omega)
    have e2 := i3 (k + 1) (by omega)
    refine ⟨h1, e1, e2, ?_, by rw [h2]; rfl⟩
    rw [mv_ws_2 e1 e2, h2, mv_ce_s hI (i4 _ (by omega)) (i5 _ (by omega)) (fun f => i6 _ f (by omega)) (fun i => if_pos (show k + 1 ≤ sm.1 by omega))]
    rfl
  refine ⟨fun k q hq => hP _ q (key hq).2.2.2.1, ⟨fun i j p q hp hq e => ?_, fun k q hq => ?_⟩, ⟨?_, ?_, fun i => ?_⟩, fun k i => ?_, fun k => ?_⟩
  · obtain ⟨b1, b2, b3, b4, b5⟩ := key hp
    obtain ⟨c1, c2, c3, c4, c5⟩ := key hq
    have e1 := hD.1 _ _ _ _ b4 c4 e
    have e2 : io (i + 1) = io (j + 1) := by omega
    have e3 := i1 (i + 1)
    rw [e2, i1] at e3
    omega
  · exact ⟨k + 1, by omega, (mv_ws_1 hq).2 ▸ rfl⟩
  · rw [i4 0 (Nat.zero_le _), i0]; exact a1
  · rw [i5 0 (Nat.zero_le _), i0]; exact a2
  · show (if 0 ≤ sm.1 then M (io 0) i else 0) = _
    rw [if_pos (Nat.zero_le _), i0]; exact a3 i
  · show mv_R64 (if k ≤ sm.1 then M (io k) i else 0) ∧ (_ → mv_R32 (if k ≤ sm.1 then M (io k) i else 0))
    by_cases hk : k ≤ sm.1
    · rw [if_pos hk, i4 k hk]; exact a4 (io k) i
    · rw [if_neg hk]; exact ⟨mv_z64, fun _ => mv_z32⟩
  · by_cases hk : k ≤ sm.1
    · rw [i5 k hk]; exact a5 (io k)
    · exact i7 k (by omega)
theorem mv_lS_self (hI : mv_In io ka sh sm) : mv_lS io ka sh sm sm = sh := by
  obtain ⟨i0, i1, i2, i3, i4, i5, i6, i7⟩ := id hI
  unfold mv_lS
  have e1 : (fun K => if mv_im io ka sm K then sm.2.2.1 (ka K) else sh.2.2.1 K) = sh.2.2.1 := funext fun K => by
    by_cases h : mv_im io ka sm K
    · rw [if_pos h, i4 _ h.2, h.1]
    · rw [if_neg h]
  have e2 : (fun K => if mv_im io ka sm K then sm.2.2.2.1 (ka K) else sh.2.2.2.1 K) = sh.2.2.2.1 := funext fun K => by
    by_cases h : mv_im io ka sm K
    · rw [if_pos h, i5 _ h.2, h.1]
    · rw [if_neg h]
  have e3 : (fun K f => if mv_im io ka sm K then io (sm.2.2.2.2 (ka K) f) else sh.2.2.2.2 K f) = sh.2.2.2.2 := funext fun K => funext fun f => by
    by_cases h : mv_im io ka sm K
    · rw [if_pos h, i6 _ _ h.2, h.1]
    · rw [if_neg h]
  rw [e1, e2, e3, Nat.sub_self, Nat.sub_self]
  rfl
theorem mv_Wd_l (hI : mv_In io ka sh sm) {H H1 : Heap} (h : mv_Wd G sh M H) (h0 : mv_hp G sh.1 H.size) (hn : sm.1 ≤ sm'.1) (hs : mv_Wd (mv_gs G io) sm' Mm H1) (hF : ∀ q, q < H.size → ¬ mg_A (mv_gs G io) q → H1[q]? = H[q]?) : mv_Wd G (mv_lS io ka sh sm sm') (mv_lM io ka sm' M Mm) H1 := by
  obtain ⟨hP, hD, ⟨a1, a2, a3⟩, a4, a5⟩ := h
  obtain ⟨sP, sD, ⟨b1, b2, b3⟩, b4, b5⟩ := hs
  obtain ⟨i0, i1, i2, i3, i4, i5, i6, i7⟩ := id hI
  have k0 : ka 0 = 0 := by have := i1 0; rwa [i0] at this
  have e0 : mv_im io ka sm' 0 := ⟨by rw [k0, i0], by rw [k0]; omega⟩
  have hout : ∀ K, K ≤ sh.1 + (sm'.1 - sm.1) → ¬ mv_im io ka sm' K → ¬ io (ka K) = K ∧ 1 ≤ K ∧ K ≤ sh.1 := by
    intro K hr hK
    have hne : ¬ io (ka K) = K := by
      intro hE
      rcases Nat.lt_or_ge sm'.1 (ka K) with e | e
      · have e1 := i2 (ka K - sm.1 - 1)
        rw [show sm.1 + 1 + (ka K - sm.1 - 1) = ka K by omega, hE] at e1
        omega
      · exact hK ⟨hE, e⟩
    refine ⟨hne, ?_, ?_⟩
    · rcases Nat.eq_zero_or_pos K with e | e
      · subst e; exact absurd e0 hK
      · exact e
    · rcases Nat.lt_or_ge sh.1 K with e | e
      · have e1 := i2 (K - sh.1 - 1)
        rw [show sh.1 + 1 + (K - sh.1 - 1) = K by omega] at e1
        rw [← e1, i1] at hne
        exact absurd rfl hne
      · exact e
  have hin : ∀ K, 1 ≤ K → mv_im io ka sm' K → 1 ≤ ka K ∧ ka K ≤ sm'.1 := by
    intro K h1 hK
    refine ⟨?_, hK.2⟩
    rcases Nat.eq_zero_or_pos (ka K) with e | e
    · have := hK.1
      rw [e, i0] at this; omega
    · exact e
  have hapart : ∀ K, K ≤ sh.1 + (sm'.1 - sm.1) → ¬ mv_im io ka sm' K → mg_a G K < H.size ∧ ¬ mg_A (mv_gs G io) (mg_a G K) := by
    intro K hr hK
    obtain ⟨hK, h1, h2⟩ := hout K hr hK
    have hl : mg_a G K < H.size := (hP _ _ (mv_ws_2 (G := G) (M := M) h1 h2)).lt
    refine ⟨hl, fun ⟨k, g1, g2⟩ => ?_⟩
    have g2 : mg_a G K = mg_a G (io k) := g2
    have g3 := mv_io_0 hI g1
    rcases Nat.lt_or_ge sh.1 (io k) with e | e
    · have e1 := h0 (io k - sh.1 - 1)
      rw [show sh.1 + 1 + (io k - sh.1 - 1) = io k by omega] at e1
      omega
    · have e1 := mv_ws_a hD ⟨h1, h2⟩ ⟨g3, e⟩ g2
      rw [e1, i1] at hK
      exact hK rfl
  have cin : ∀ K, mv_im io ka sm' K → mv_ce G (mv_lS io ka sh sm sm') (mv_lM io ka sm' M Mm) K = mv_ce (mv_gs G io) sm' Mm (ka K) := by
    intro K hK
    have e := mv_ce_s (G := G) (sm' := sm') (Mm := Mm) (sL := mv_lS io ka sh sm sm') (ML := mv_lM io ka sm' M Mm) hI (k := ka K)
      (by show _ = if mv_im io ka sm' (io (ka K)) then _ else _; rw [if_pos (by rw [hK.1]; exact hK), i1])
      (by show _ = if mv_im io ka sm' (io (ka K)) then _ else _; rw [if_pos (by rw [hK.1]; exact hK), i1])
      (fun f => by show _ = if mv_im io ka sm' (io (ka K)) then _ else _; rw [if_pos (by rw [hK.1]; exact hK), i1])
      (fun i => by show _ = if mv_im io ka sm' (io (ka K)) then _ else _; rw [if_pos (by rw [hK.1]; exact hK), i1])
    rw [e, hK.1]
  have cout : ∀ K, ¬ mv_im io ka sm' K → mv_ce G (mv_lS io ka sh sm sm') (mv_lM io ka sm' M Mm) K = mv_ce G sh M K := by
    intro K hK
    refine mv_ce_c (if_neg hK) (if_neg hK) (fun f => if_neg hK) (fun i => if_neg hK)
  refine ⟨fun k q hq => ?_, ⟨fun i j p q hp hq e => ?_, fun k q hq => ?_⟩, ⟨?_, ?_, fun i => ?_⟩, fun K i => ?_, fun K => ?_⟩
  · obtain ⟨h1, rfl⟩ := mv_ws_1 hq
    have h1 : k < sh.1 + (sm'.1 - sm.1) := h1
    by_cases hK : mv_im io ka sm' (k + 1)
    · obtain ⟨g1, g2⟩ := hin (k + 1) (by omega) hK
      have e := sP _ _ (mv_ws_2 (G := mv_gs G io) (M := Mm) g1 g2)
      rw [cin _ hK]
      have e2 : mg_a (mv_gs G io) (ka (k + 1)) = mg_a G (k + 1) := by show mg_a G (io (ka (k + 1))) = _; rw [hK.1]
      rw [e2] at e
      exact e
    · obtain ⟨-, g1, g2⟩ := hout _ (by omega) hK
      obtain ⟨g3, g4⟩ := hapart _ (by omega) hK
      have e := hP _ _ (mv_ws_2 (G := G) (M := M) g1 g2)
      rw [cout _ hK]
      exact e.kept (hF _ g3 g4)
  · obtain ⟨h1, rfl⟩ := mv_ws_1 hp
    obtain ⟨h2, rfl⟩ := mv_ws_1 hq
    have h1 : i < sh.1 + (sm'.1 - sm.1) := h1
    have h2 : j < sh.1 + (sm'.1 - sm.1) := h2
    have e : mg_a G (i + 1) = mg_a G (j + 1) := e
    by_cases hK : mv_im io ka sm' (i + 1)
    · obtain ⟨g1, g2⟩ := hin (i + 1) (by omega) hK
      by_cases hJ : mv_im io ka sm' (j + 1)
      · obtain ⟨g3, g4⟩ := hin (j + 1) (by omega) hJ
        have e2 := mv_ws_a sD ⟨g1, g2⟩ ⟨g3, g4⟩ (by show mg_a G (io (ka (i + 1))) = mg_a G (io (ka (j + 1))); rw [hK.1, hJ.1]; exact e)
        have h8 := hK.1
        rw [e2, hJ.1] at h8
        omega
      · exact absurd ⟨ka (i + 1), g1, by show _ = mg_a G (io (ka (i + 1))); rw [hK.1]; exact e.symm⟩ (hapart _ (by omega) hJ).2
    · by_cases hJ : mv_im io ka sm' (j + 1)
      · obtain ⟨g3, g4⟩ := hin (j + 1) (by omega) hJ
        exact absurd ⟨ka (j + 1), g3, by show _ = mg_a G (io (ka (j + 1))); rw [hJ.1]; exact e⟩ (hapart _ (by omega) hK).2
      · have := mv_ws_a hD (hout _ (by omega) hK).2 (hout _ (by omega) hJ).2 e
        omega
  · obtain ⟨h1, rfl⟩ := mv_ws_1 hq
    exact ⟨k + 1, by omega, rfl⟩
  · show (if mv_im io ka sm' 0 then sm'.2.2.1 (ka 0) else _) = _
    rw [if_pos e0, k0]; exact b1
  · show (if mv_im io ka sm' 0 then sm'.2.2.2.1 (ka 0) else _) = _
    rw [if_pos e0, k0]; exact b2
  · show (if mv_im io ka sm' 0 then Mm (ka 0) i else _) = _
    rw [if_pos e0, k0]; exact b3 i
  · show mv_R64 (if mv_im io ka sm' K then Mm (ka K) i else M K i) ∧ ((if mv_im io ka sm' K then sm'.2.2.1 (ka K) else sh.2.2.1 K) ≠ 101 → mv_R32 (if mv_im io ka sm' K then Mm (ka K) i else M K i))
    by_cases hK : mv_im io ka sm' K
    · rw [if_pos hK, if_pos hK]; exact b4 _ i
    · rw [if_neg hK, if_neg hK]; exact a4 K i
  · show (if mv_im io ka sm' K then sm'.2.2.2.1 (ka K) else sh.2.2.2.1 K) ≤ 100000
    by_cases hK : mv_im io ka sm' K
    · rw [if_pos hK]; exact b5 _
    · rw [if_neg hK]; exact a5 K
theorem mv_frame (hI : mv_In io ka sh sm) {c : Nat} {as : List mv_V} {post : Option mv_V → mv_SH → mv_Mem → Prop} (hc : mt_mc (mv_r c) < 150) (h : mv_Wp (mv_gs G io) c as sm (mv_mS io sm M) post) :
    mv_Wp G c (as.map (mv_tr io)) sh M (fun r sh' M' => ∃ r0 sm' Mm, post r0 sm' Mm ∧ r = r0.map (mv_tr io) ∧ sh' = mv_lS io ka sh sm sm' ∧ M' = mv_lM io ka sm' M Mm) := by
  obtain ⟨i0, i1, i2, i3, i4, i5, i6, i7⟩ := id hI
  have hmap : (as.map (mv_tr io)).map (mv_ct G) = as.map (mv_ct (mv_gs G io)) := by
    rw [List.map_map]
    exact List.map_congr_left fun v _ => (mv_ct_s hI v).symm
  refine ⟨h.1, MetFree.mono h.2 (fun a U q => ?_) (fun _ _ _ _ _ q => q) (fun a st o t hp q => ?_)⟩
  · obtain ⟨e, q1, q2, q3, q4, q5, q6⟩ := q
    refine ⟨by rw [← hmap]; exact e, fun j => ?_, mv_Wd_s hI q2, q3, q4, ⟨q5.1, fun hA => q5.2 (mg_A_s hI hA)⟩, fun x hx => ?_⟩
    · show mg_a G (io (sm.1 + 1 + j)) = _
      rw [i2]; exact q1 j
    · exact mv_ov_s.mp (q6 _ (List.mem_map_of_mem hx))
  · obtain ⟨⟨⟨r0, sm', Mm, g1, g2, g3, g4, g5⟩, g6⟩, Ls, g7, g8⟩ := q
    obtain ⟨e, q1, q2, q3, q4, q5, q6⟩ := hp
    obtain ⟨n1, n2⟩ : sm'.1 = sm.1 + mt_mc (mv_r c) ∧ sm'.2.1 = sm.2.1 + mt_ms (mv_r c) := g4.elim (fun z => absurd z (by omega)) id
    refine ⟨⟨⟨r0.map (mv_tr io), mv_lS io ka sh sm sm', mv_lM io ka sm' M Mm, ?_, ?_, ⟨r0, sm', Mm, g3, rfl, rfl, rfl⟩, Or.inr ⟨?_, ?_⟩, mv_Wd_l hI q2 q1 (by omega) g5 g6.2⟩, g6.1, fun q hq hn => g6.2 q hq (fun z => hn (mg_A_s hI z))⟩, Ls, g7, fun q hq => mg_A_s hI (g8 q hq)⟩
    · rw [g1]
      cases r0 with
      | none => rfl
      | some v => exact congrArg (fun z => Outcome.returned (some z)) (mv_ct_s hI v)
    · intro x hx
      cases r0 with
      | none => cases hx
      | some v => cases hx; exact mv_ov_s.mpr (g2 v rfl)
    · show sh.1 + (sm'.1 - sm.1) = _
      omega
    · show sh.2.1 + (sm'.2.1 - sm.2.1) = _
      omega
theorem mv_frame_i (hI : mv_In io ka sh sm) {c : Nat} {as : List mv_V} {F : Int → mv_Mem → Prop} (hc : mt_mc (mv_r c) < 150) (h : mv_Wp (mv_gs G io) c as sm (mv_mS io sm M) (mv_qi sm fun x Mm => F x (mv_lM io ka sm M Mm))) : mv_Wp G c (as.map (mv_tr io)) sh M (mv_qi sh F) :=
  mv_mono (mv_frame hI hc h) fun r sh' M' q => by
    obtain ⟨r0, sm', Mm, ⟨rfl, x, rfl, q1⟩, rfl, rfl, rfl⟩ := q
    rw [mv_lS_self hI]
    exact mv_qi_i q1
theorem mv_frame_l (hI : mv_In io ka sh sm) {c : Nat} {as : List mv_V} {F : Int → mv_Mem → Prop} (hc : mt_mc (mv_r c) < 150) (h : mv_Wp (mv_gs G io) c as sm (mv_mS io sm M) (mv_ql sm fun x Mm => F x (mv_lM io ka sm M Mm))) : mv_Wp G c (as.map (mv_tr io)) sh M (mv_ql sh F) :=
  mv_mono (mv_frame hI hc h) fun r sh' M' q => by
    obtain ⟨r0, sm', Mm, ⟨rfl, x, rfl, q1⟩, rfl, rfl, rfl⟩ := q
    rw [mv_lS_self hI]
    exact mv_ql_i q1
theorem mv_frame_v (hI : mv_In io ka sh sm) {c : Nat} {as : List mv_V} {F : mv_Mem → Prop} (hc : mt_mc (mv_r c) < 150) (h : mv_Wp (mv_gs G io) c as sm (mv_mS io sm M) (mv_qv sm fun Mm => F (mv_lM io ka sm M Mm))) : mv_Wp G c (as.map (mv_tr io)) sh M (mv_qv sh F) :=
  mv_mono (mv_frame hI hc h) fun r sh' M' q => by
    obtain ⟨r0, sm', Mm, ⟨rfl, rfl, q1⟩, rfl, rfl, rfl⟩ := q
    rw [mv_lS_self hI]
    exact mv_qv_i q1
end FR
