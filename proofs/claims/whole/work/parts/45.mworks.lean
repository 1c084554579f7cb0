/-! THE MODEL's ROADS PUT, PLANS IN MIND -/
section MR
variable {S : mv_Mem} {G : mv_G} {l : Nat} {M : mv_Mem} {F : Int → mv_Mem → Prop}
/-- two steps between the same two acres -/
theorem sg_pair (hw : sg_wf S) {j e k d : Nat} (hj : sg_ok S j) (he : e < 4) (hje : sg_has S j e) (hk : sg_ok S k) (hd : d < 4) (hh : sg_has S k d) (h : (j = k ∧ sg_nx j e = sg_nx k d) ∨ (j = sg_nx k d ∧ sg_nx j e = k)) : (j = k ∧ e = d) ∨ (j = sg_nx k d ∧ e = sg_dd d) := by
  obtain ⟨c1, c2, c3⟩ := sg_back hw hk hd hh
  obtain ⟨dd1, dd2⟩ := sg_dd_lt hd
  have dirq : ∀ a e' : Nat, sg_ok S a → e' < 4 → sg_has S a e → sg_has S a e' → sg_nx a e = sg_nx a e' → e = e' := by
    intro a e' ha h4' h1 h2 hx
    have p1 := sg_pb_yes hw ha h1 he
    have p2 := sg_pb_yes hw ha h2 h4'
    have g1 := (sg_pb_dir hw ha p1.2 he).1 p1.1
    have g2 := (sg_pb_dir hw ha p1.2 h4').1 (by rw [hx]; exact p2.1)
    omega
  rcases h with ⟨rfl, z⟩ | ⟨rfl, z⟩
  · exact Or.inl ⟨rfl, dirq j d hj hd hje hh z⟩
  · exact Or.inr ⟨rfl, dirq _ (sg_dd d) hj dd1 hje c1 (by rw [z, c2])⟩
/-- a road of the list, with its step -/
theorem sg_rp_st {n r : Nat} (hR : sg_Rl S M n) (hr : r < n) {k k' : Nat} (hp : sg_rp M r k k') : ∃ j e : Nat, sg_ok S j ∧ e < 4 ∧ sg_has S j e ∧ M 96 r = (j : Int) ∧ M 97 r = (sg_nx j e : Int) ∧ (1 ≤ M 98 r ∧ M 98 r ≤ 3) ∧ S 5 (4 * j + e) = M 98 r ∧ ((j = k ∧ sg_nx j e = k') ∨ (j = k' ∧ sg_nx j e = k)) := by
  obtain ⟨j, e, h1, h2, h3, h4, h5, h6, h7⟩ := hR.2.2.1 r hr
  refine ⟨j, e, h1, h2, h3, h4, h5, h6, h7, ?_⟩
  rcases hp with ⟨z1, z2⟩ | ⟨z1, z2⟩
  · exact Or.inl ⟨by omega, by omega⟩
  · exact Or.inr ⟨by omega, by omega⟩
theorem sg_Rl_put (hw : sg_wf S) {M' : mv_Mem} {n n' r k d : Nat} {c : Int} (hR : sg_Rl S M n) (hk : sg_ok S k) (hd : d < 4) (hh : sg_has S k d) (hc : 1 ≤ c ∧ c ≤ 3) (hn : n ≤ n') (hn20 : n' ≤ 20) (hr : r < n') (hin : r < n → sg_rp M r k (sg_nx k d))
    (ho : ∀ r', r' < n' → r' ≠ r → r' < n ∧ ¬ sg_rp M r' k (sg_nx k d)) (h17 : M' 88 17 = (n' : Int)) (h96 : M' 96 r = (k : Int)) (h97 : M' 97 r = (sg_nx k d : Int)) (h98 : M' 98 r = c) (hoth : ∀ a i, 96 ≤ a → a ≤ 98 → i ≠ r → M' a i = M a i) : sg_Rl (sg_lay S k d c) M' n' := by
  obtain ⟨b1, b2, b3⟩ := sg_back hw hk hd hh
  obtain ⟨dd1, dd2⟩ := sg_dd_lt hd
  have l1 : sg_lay S k d c 5 (4 * k + d) = c := by
    unfold sg_lay
    rw [mv_up_j (by omega), mv_up_s]
  have l2 : ∀ i, i ≠ 4 * k + d → i ≠ 4 * sg_nx k d + sg_dd d → sg_lay S k d c 5 i = S 5 i := fun i h1 h2 => by
    unfold sg_lay
    rw [mv_up_j h2, mv_up_j h1]
  have rpo : ∀ r' a b, r' ≠ r → (sg_rp M' r' a b ↔ sg_rp M r' a b) := fun r' a b h => by
    unfold sg_rp
    rw [hoth 96 r' (by decide) (by decide) h, hoth 97 r' (by decide) (by decide) h]
  have rpr : ∀ a b : Nat, sg_rp M' r a b → (a = k ∧ b = sg_nx k d) ∨ (a = sg_nx k d ∧ b = k) := fun a b h => by
    unfold sg_rp at h
    rw [h96, h97] at h
    omega
  have rps : ∀ r' a b, sg_rp M r' a b → sg_rp M r' b a := fun r' a b h => by
    rcases h with h | h
    · exact Or.inr h
    · exact Or.inl h
  refine ⟨hn20, h17, fun r' hr' => ?_, fun j e hj he hje hne => ?_, fun r1 r2 a b h1 h2 p1 p2 => ?_⟩
  · by_cases z : r' = r
    · subst z
      exact ⟨k, d, hk, hd, hh, h96, h97, by rw [h98]; exact hc, by rw [l1, h98]⟩
    · obtain ⟨o1, o2⟩ := ho r' hr' z
      obtain ⟨j, e, hj, he, hje, q1, q2, q3, q4⟩ := hR.2.2.1 r' o1
      refine ⟨j, e, hj, he, hje, ?_, ?_, ?_, ?_⟩
      · rw [hoth 96 r' (by decide) (by decide) z]
        exact q1
      · rw [hoth 97 r' (by decide) (by decide) z]
        exact q2
      · rw [hoth 98 r' (by decide) (by decide) z]
        exact q3
      · rw [hoth 98 r' (by decide) (by decide) z, l2 _ (fun y => ?_) (fun y => ?_)]
        · exact q4
        · have y1 : j = k := by omega
          have y2 : e = d := by omega
          subst y1
          subst y2
          exact o2 (Or.inl ⟨q1, q2⟩)
        · have y1 : j = sg_nx k d := by omega
          have y2 : e = sg_dd d := by omega
          subst y1
          subst y2
          rw [b2] at q2
          exact o2 (Or.inr ⟨q1, q2⟩)
  · have hj' : sg_ok S j := hj
    have hje' : sg_has S j e := hje
    by_cases z : (j = k ∧ e = d) ∨ (j = sg_nx k d ∧ e = sg_dd d)
    · refine ⟨r, hr, ?_⟩
      rcases z with ⟨rfl, rfl⟩ | ⟨rfl, rfl⟩
      · exact Or.inl ⟨h96, h97⟩
      · rw [b2]
        exact Or.inr ⟨h96, h97⟩
    · rw [l2 _ (fun y => z (Or.inl ⟨by omega, by omega⟩)) (fun y => z (Or.inr ⟨by omega, by omega⟩))] at hne
      obtain ⟨r', r1, r2⟩ := hR.2.2.2.1 j e hj' he hje' hne
      by_cases y : r' = r
      · exfalso
        subst y
        -- the road at r lay between other acres: then it must be the one that is replaced
        have t := hin r1
        obtain ⟨i, f, hi, hf, hif, s1, s2, s3, s4, s5⟩ := sg_rp_st hR r1 r2
        rcases t with ⟨t1, t2⟩ | ⟨t1, t2⟩
        · refine z (sg_pair hw hj' he hje' hk hd hh ?_)
          rcases s5 with ⟨u1, u2⟩ | ⟨u1, u2⟩
          · exact Or.inl ⟨by omega, by omega⟩
          · exact Or.inr ⟨by omega, by omega⟩
        · refine z (sg_pair hw hj' he hje' hk hd hh ?_)
          rcases s5 with ⟨u1, u2⟩ | ⟨u1, u2⟩
          · exact Or.inr ⟨by omega, by omega⟩
          · exact Or.inl ⟨by omega, by omega⟩
      · exact ⟨r', Nat.lt_of_lt_of_le r1 hn, (rpo r' _ _ y).2 r2⟩
  · by_cases z1 : r1 = r
    · by_cases z2 : r2 = r
      · omega
      · exfalso
        subst z1
        have q2 := (rpo r2 a b z2).1 p2
        rcases rpr a b p1 with ⟨rfl, rfl⟩ | ⟨rfl, rfl⟩
        · exact (ho r2 h2 z2).2 q2
        · exact (ho r2 h2 z2).2 (rps _ _ _ q2)
    · by_cases z2 : r2 = r
      · exfalso
        subst z2
        have q1 := (rpo r1 a b z1).1 p1
        rcases rpr a b p2 with ⟨rfl, rfl⟩ | ⟨rfl, rfl⟩
        · exact (ho r1 h1 z1).2 q1
        · exact (ho r1 h1 z1).2 (rps _ _ _ q1)
      · exact hR.2.2.2.2 r1 r2 a b (ho r1 h1 z1).1 (ho r2 h2 z2).1 ((rpo r1 a b z1).1 p1) ((rpo r2 a b z2).1 p2)
theorem sg_Mo_c {S' : mv_Mem} (h : ∀ a i, a ≠ 5 → S' a i = S a i) (hM : sg_Mo S M) : sg_Mo S' M := by
  have ok : ∀ k, sg_ok S' k ↔ sg_ok S k := fun k => by
    unfold sg_ok
    rw [h 0 0 (by decide), h 0 1 (by decide)]
  have e : ∀ a, a ≠ 5 → S' a = S a := fun a ha => funext fun i => h a i ha
  unfold sg_Mo at hM ⊢
  simp only [ok, e 0 (by decide), e 1 (by decide), e 2 (by decide), e 3 (by decide), e 4 (by decide), e 6 (by decide), e 7 (by decide), e 8 (by decide), e 9 (by decide), e 10 (by decide), e 11 (by decide), e 12 (by decide), e 13 (by decide), e 14 (by decide), e 15 (by decide), e 16 (by decide), e 17 (by decide), e 18 (by decide), e 19 (by decide), e 20 (by decide), e 21 (by decide), e 22 (by decide), e 23 (by decide)]
  exact hM
theorem sg_Rl_fn {M' : mv_Mem} {n : Nat} (h : sg_Rl S M n) (h17 : M' 88 17 = (n : Int)) (hm : ∀ a i, 96 ≤ a → a ≤ 98 → i < n → M' a i = M a i) : sg_Rl S M' n := by
  obtain ⟨h1, h2, h3, h4, h5⟩ := h
  have rp : ∀ r k k', r < n → (sg_rp M' r k k' ↔ sg_rp M r k k') := fun r k k' hr => by
    unfold sg_rp
    rw [hm 96 r (by decide) (by decide) hr, hm 97 r (by decide) (by decide) hr]
  refine ⟨h1, h17, fun r hr => ?_, fun k d a b c e => ?_, fun r r' k k' a b c d => h5 r r' k k' a b ((rp r k k' a).1 c) ((rp r' k k' b).1 d)⟩
  · rw [hm 96 r (by decide) (by decide) hr, hm 97 r (by decide) (by decide) hr, hm 98 r (by decide) (by decide) hr]
    exact h3 r hr
  · obtain ⟨r, r1, r2⟩ := h4 k d a b c e
    exact ⟨r, r1, (rp r _ _ r1).2 r2⟩
/-- cells that a putting of roads leaves as they are -/
def sg_fp2 (M0 M : mv_Mem) : Prop := ∀ a i, ¬ (96 ≤ a ∧ a ≤ 98) → ¬ (a = 88 ∧ i = 17) → M a i = M0 a i
theorem md_puts (hw : sg_wf S) {F : mv_Mem → Prop} {n k d : Nat} {c : Int} (hR : sg_Rl S M n) (hn20 : n < 20) (hk : sg_ok S k) (hd : d < 4) (hh : sg_has S k d) (hc : 1 ≤ c ∧ c ≤ 3)
    (h : ∀ M' n', n' ≤ n + 1 → sg_fp2 M M' → sg_Rl (sg_lay S k d c) M' n' → F M') :
    mv_Wp G 148 [.inr (.inr 88), .inl (k : Int), .inl (sg_nx k d : Int), .inl c] (mh l) M (mv_qv (mh l) F) := by
  refine vw_X12_puts (md_roadOf hR.1 hR.2.1 (fun r hr hp => ?_) (fun hno => ?_))
  · rw [if_pos (by omega), Int.toNat_natCast]
    refine ⟨by omega, by omega, by omega, mv_qv_i (h _ n (by omega) (fun a i h1 h2 => by rw [mv_up_c (by omega), mv_up_c (by omega), mv_up_c (by omega)]) (sg_Rl_put (n' := n) (r := r) hw hR hk hd hh hc (Nat.le_refl _) hR.1 hr (fun _ => hp) (fun r' h1 h2 => ⟨h1, fun z => h2 (hR.2.2.2.2 r' r _ _ h1 hr z hp)⟩) ?_ ?_ ?_ ?_ (fun a i h1 h2 h3 => ?_)))⟩
    · rw [mv_up_c (by decide), mv_up_c (by decide), mv_up_c (by decide)]
      exact hR.2.1
    · rw [mv_up_c (by decide), mv_up_c (by decide), mv_up_s]
    · rw [mv_up_c (by decide), mv_up_s]
    · rw [mv_up_s]
    · rw [mv_up_n (fun z => h3 z.2), mv_up_n (fun z => h3 z.2), mv_up_n (fun z => h3 z.2)]
  · rw [if_neg (by decide), hR.2.1, Int.toNat_natCast]
    refine ⟨by omega, by omega, by omega, by omega, mv_qv_i (h _ (n + 1) (by omega) (fun a i h1 h2 => by rw [mv_up_c (by omega), mv_up_c (by omega), mv_up_c (by omega), mv_up_n (fun z => h2 ⟨z.1, z.2⟩)]) (sg_Rl_put (n' := n + 1) (r := n) hw hR hk hd hh hc (by omega) (by omega) (by omega) (fun z => by omega) (fun r' h1 h2 => ⟨by omega, hno r' (by omega)⟩) ?_ ?_ ?_ ?_ (fun a i h1 h2 h3 => ?_)))⟩
    · rw [mv_up_c (by decide), mv_up_c (by decide), mv_up_c (by decide), mv_up_s]
      omega
    · rw [mv_up_c (by decide), mv_up_c (by decide), mv_up_s]
    · rw [mv_up_c (by decide), mv_up_s]
    · rw [mv_up_s]
    · rw [mv_up_n (fun z => h3 z.2), mv_up_n (fun z => h3 z.2), mv_up_n (fun z => h3 z.2), mv_up_c (by omega)]
/-- cells that a finding with plans leaves as they are -/
def sg_fw (M0 M : mv_Mem) : Prop := ∀ a i, a ≠ 100 → a ≠ 104 → ¬ (117 ≤ a ∧ a ≤ 119) → ¬ (96 ≤ a ∧ a ≤ 98) → ¬ (129 ≤ a ∧ a ≤ 131) → M a i = M0 a i
theorem sg_fw_o {M0 : mv_Mem} (hM : sg_Mo S M0) (h : sg_fw M0 M) : sg_Mo S M := sg_Mo_fr hM (fun a i ha => h a i (by unfold sg_mc at ha; omega) (by unfold sg_mc at ha; omega) (by unfold sg_mc at ha; omega) (by unfold sg_mc at ha; omega) (by unfold sg_mc at ha; omega))
theorem md_findsWith (hw : sg_wf S) {M0 : mv_Mem} {F : mv_Mem → Prop} {n s : Nat} (hM : sg_Mo S M0) (hR : sg_Rl S M0 n) (hn12 : n ≤ 12) (hs : s < 256)
    (h : ∀ M, sg_fw M0 M → sg_Mo S M → sg_Rl S M n → sg_Fb (sg_wi S s) M → F M) :
    mv_Wp G 204 [.inr (.inr 88), .inl (s : Int)] (mh l) M0 (mv_qv (mh l) F) := by
  have hp8 := hw.1.2.2.2.2.2.1
  have hw' := sg_bl_wf hw s true (S 0 5).toNat (by omega)
  -- the list is put back
  have back : ∀ M1 : mv_Mem, (∀ a i, a ≠ 100 → a ≠ 104 → ¬ (117 ≤ a ∧ a ≤ 119) → ¬ (96 ≤ a ∧ a ≤ 98) → ¬ (129 ≤ a ∧ a ≤ 131) → ¬ (a = 88 ∧ i = 17) → M1 a i = M0 a i) → M1 88 17 = (n : Int) → (∀ i, i < n → M1 129 i = M0 96 i ∧ M1 130 i = M0 97 i ∧ M1 131 i = M0 98 i) → sg_Fb (sg_wi S s) M1 → ∀ (q r : Nat) (M : mv_Mem), r + q = n → (∀ a i, ¬ (96 ≤ a ∧ a ≤ 98) → M a i = M1 a i) → (∀ i, i < r → M 96 i = M0 96 i ∧ M 97 i = M0 97 i ∧ M 98 i = M0 98 i) →
      mv_Run G 204 136 7420 115 [(0, .inr (.inr 88)), (3, .inl (r : Int))] [] (mh l) M (mv_qv (mh l) F) := by
    intro M1 f1 h17 hk hb q
    induction q with
    | zero =>
      intro r M hr hfr hd
      refine vr_X12_findsWith_115 ?_
      have c17 : M 88 17 = (n : Int) := (hfr 88 17 (by decide)).trans h17
      rw [c17, if_pos (by omega)]
      have hfw : sg_fw M0 M := fun a i a1 a2 a3 a4 a5 => by
        by_cases z : a = 88 ∧ i = 17
        · rw [z.1, z.2, c17]
          exact hR.2.1.symm
        · rw [hfr a i a4]
          exact f1 a i a1 a2 a3 a4 a5 z
      refine mv_qv_i (h M hfw (sg_fw_o hM hfw) (sg_Rl_fn hR c17 (fun a i h1 h2 h3 => ?_)) ⟨(hfr 88 37 (by decide)).trans hb.1, fun k hk => ?_⟩)
      · obtain ⟨q1, q2, q3⟩ := hd i (by omega)
        rcases (show a = 96 ∨ a = 97 ∨ a = 98 by omega) with rfl | rfl | rfl
        · exact q1
        · exact q2
        · exact q3
      · rw [hfr 119 k (by decide)]
        exact hb.2 k hk
    | succ q ih =>
      intro r M hr hfr hd
      refine vr_X12_findsWith_115 ?_
      have c17 : M 88 17 = (n : Int) := (hfr 88 17 (by decide)).trans h17
      obtain ⟨k1, k2, k3⟩ := hk r (by omega)
      rw [c17, if_neg (by omega), Int.toNat_natCast, mv_up_c (show 130 ≠ 96 by decide), mv_up_c (show 131 ≠ 97 by decide), mv_up_c (show 131 ≠ 96 by decide), hfr 129 r (by decide), hfr 130 r (by decide), hfr 131 r (by decide), k1, k2, k3]
      refine ⟨by omega, by omega, by omega, by omega, by omega, by omega, by omega, ih (r + 1) _ (by omega) (fun a i ha => by rw [mv_up_c (by omega), mv_up_c (by omega), mv_up_c (by omega)]; exact hfr a i ha) (fun i hi => ?_)⟩
      by_cases z : i = r
      · subst z
        refine ⟨?_, ?_, ?_⟩
        · rw [mv_up_c (by decide), mv_up_c (by decide), mv_up_s]
        · rw [mv_up_c (by decide), mv_up_s]
        · rw [mv_up_s]
      · obtain ⟨q1, q2, q3⟩ := hd i (by omega)
        refine ⟨?_, ?_, ?_⟩
        · rw [mv_up_c (by decide), mv_up_c (by decide), mv_up_j z]
          exact q1
        · rw [mv_up_c (by decide), mv_up_j z]
          exact q2
        · rw [mv_up_j z]
          exact q3
  -- the plans are put
  have put : ∀ M1 : mv_Mem, (∀ a i, ¬ (129 ≤ a ∧ a ≤ 131) → M1 a i = M0 a i) → (∀ i, i < n → M1 129 i = M0 96 i ∧ M1 130 i = M0 97 i ∧ M1 131 i = M0 98 i) → ∀ (q p m : Nat) (M : mv_Mem), ((p + q : Nat) : Int) = S 0 5 → m ≤ n + p → sg_fp2 M1 M → sg_Rl (sg_bl S s true p) M m →
      mv_Run G 204 136 7420 59 [(0, .inr (.inr 88)), (1, .inl (s : Int)), (2, .inl (n : Int)), (3, .inl (p : Int))] [] (mh l) M (mv_qv (mh l) F) := by
    intro M1 f1 k1 q
    have mo : ∀ M : mv_Mem, sg_fp2 M1 M → sg_Mo S M := fun M hfr => sg_Mo_fr hM (fun a i ha => by
      rw [hfr a i (by unfold sg_mc at ha; omega) (by unfold sg_mc at ha; omega)]
      exact f1 a i (by unfold sg_mc at ha; omega))
    induction q with
    | zero =>
      intro p m M hp hm hfr hRM
      refine vr_X12_findsWith_59 ?_
      have hMM := mo M hfr
      have c1 : M 88 55 = S 0 5 := hMM.1.2.2.2.2.2
      rw [c1, if_pos (by omega)]
      have e : p = (S 0 5).toNat := by omega
      subst e
      refine md_finds (S := sg_wi S s) hw' (sg_Mo_c (fun a i ha => sg_bl_o S s true _ a i ha) hMM) hRM (fun M2 f2 w2 d2 => ?_)
      have hMo2 : sg_Mo (sg_wi S s) M2 := sg_Mo_fr (sg_Mo_c (fun a i ha => sg_bl_o S s true _ a i ha) hMM) (fun a i ha => f2 a i (by unfold sg_mc at ha; omega) (by unfold sg_mc at ha; omega) (by unfold sg_mc at ha; omega))
      have hFb := sg_Fb_o hMo2 d2
      have fr : ∀ a i, a ≠ 100 → a ≠ 104 → ¬ (117 ≤ a ∧ a ≤ 119) → ¬ (96 ≤ a ∧ a ≤ 98) → ¬ (a = 88 ∧ i = 17) → (mv_up M2 88 17 (n : Int)) a i = M1 a i := fun a i a1 a2 a3 a4 a5 => by
        rw [mv_up_n a5, f2 a i a1 a2 a3]
        exact hfr a i a4 a5
      refine back (mv_up M2 88 17 (n : Int)) (fun a i a1 a2 a3 a4 a5 a6 => (fr a i a1 a2 a3 a4 a6).trans (f1 a i a5)) mv_up_s (fun i hi => ?_) ⟨?_, fun k hk => ?_⟩ n 0 _ (by omega) (fun _ _ _ => rfl) (fun i hi => by omega)
      · rw [fr 129 i (by decide) (by decide) (by decide) (by decide) (by omega), fr 130 i (by decide) (by decide) (by decide) (by decide) (by omega), fr 131 i (by decide) (by decide) (by decide) (by decide) (by omega)]
        exact k1 i hi
      · rw [mv_up_j (by decide)]
        exact hFb.1
      · rw [mv_up_c (by decide)]
        exact hFb.2 k hk
    | succ q ih =>
      intro p m M hp hm hfr hRM
      refine vr_X12_findsWith_59 ?_
      have hMM := mo M hfr
      have hpl : (p : Int) < S 0 5 := by omega
      have c1 : M 88 55 = S 0 5 := hMM.1.2.2.2.2.2
      obtain ⟨p1, p2, p3, p4, p5, p6, p7, p8⟩ := sg_wfp hw hpl
      obtain ⟨q1, q2, q3, q4⟩ := hMM.2.2.2.2.2.2.2.2.2.2 p hpl
      have ht := (hw.2.2.2.2.2.2.1 p hpl).1.1
      have c125 : M 125 p = (((S 20 p).toNat : Nat) : Int) := q1.trans (by omega)
      have e : sg_bl S s true (p + 1) = sg_pm (sg_bt s p) (sg_lay (sg_bl S s true p) (S 20 p).toNat (S 21 p).toNat (if true = true then S 22 p else 0)) (sg_bl S s true p) := rfl
      rw [if_pos rfl] at e
      rw [c1, if_neg (by omega), sg_bit hs (by omega)]
      by_cases z : sg_bt s p
      · have z' : s / 2 ^ p % 2 = 1 := z
        rw [z', if_pos (by decide), Int.toNat_natCast, c125, q2, q3]
        refine ⟨by omega, by omega, by omega, md_puts (S := sg_bl S s true p) (n := m) (sg_bl_wf hw s true p (by omega)) hRM (by omega) (sg_ok_bl.2 p1) p2 (sg_has_bl.2 p3) ⟨p4, p5⟩ (fun M2 n2 h2 f2 r2 => ⟨by omega, ih (p + 1) n2 M2 (by omega) (by omega) (fun a i a1 a2 => (f2 a i a1 a2).trans (hfr a i a1 a2)) ?_⟩)⟩
        rw [e, sg_pm_y z]
        exact r2
      · have z' : ¬ s / 2 ^ p % 2 = 1 := z
        rw [if_neg (by omega)]
        refine ⟨by omega, ih (p + 1) m M (by omega) (by omega) hfr ?_⟩
        rw [e, sg_pm_n z]
        exact hRM
  -- the list is kept
  have keep : ∀ (q r : Nat) (M : mv_Mem), r + q = n → (∀ a i, ¬ (129 ≤ a ∧ a ≤ 131) → M a i = M0 a i) → (∀ i, i < r → M 129 i = M0 96 i ∧ M 130 i = M0 97 i ∧ M 131 i = M0 98 i) →
      mv_Run G 204 136 7420 7 [(0, .inr (.inr 88)), (1, .inl (s : Int)), (2, .inl (n : Int)), (3, .inl (r : Int))] [] (mh l) M (mv_qv (mh l) F) := by
    intro q
    induction q with
    | zero =>
      intro r M hr hfr hd
      refine vr_X12_findsWith_7 ?_
      have c17 : M 88 17 = (n : Int) := (hfr 88 17 (by decide)).trans hR.2.1
      rw [c17, if_pos (by omega)]
      exact put M hfr (fun i hi => hd i (by omega)) (S 0 5).toNat 0 n M (by omega) (by omega) (fun _ _ _ _ => rfl) (sg_Rl_fr hR (hfr 88 17 (by decide)) (fun a i h1 h2 => hfr a i (by omega)))
    | succ q ih =>
      intro r M hr hfr hd
      refine vr_X12_findsWith_7 ?_
      have c17 : M 88 17 = (n : Int) := (hfr 88 17 (by decide)).trans hR.2.1
      rw [c17, if_neg (by omega), Int.toNat_natCast, mv_up_c (show 97 ≠ 129 by decide), mv_up_c (show 98 ≠ 130 by decide), mv_up_c (show 98 ≠ 129 by decide), hfr 96 r (by decide), hfr 97 r (by decide), hfr 98 r (by decide)]
      refine ⟨by omega, by omega, by omega, by omega, by omega, by omega, by omega, ih (r + 1) _ (by omega) (fun a i ha => by rw [mv_up_c (by omega), mv_up_c (by omega), mv_up_c (by omega)]; exact hfr a i ha) (fun i hi => ?_)⟩
      by_cases z : i = r
      · subst z
        refine ⟨?_, ?_, ?_⟩
        · rw [mv_up_c (by decide), mv_up_c (by decide), mv_up_s]
        · rw [mv_up_c (by decide), mv_up_s]
        · rw [mv_up_s]
      · obtain ⟨q1, q2, q3⟩ := hd i (by omega)
        refine ⟨?_, ?_, ?_⟩
        · rw [mv_up_c (by decide), mv_up_c (by decide), mv_up_j z]
          exact q1
        · rw [mv_up_c (by decide), mv_up_j z]
          exact q2
        · rw [mv_up_j z]
          exact q3
  refine vw_X12_findsWith ?_
  rw [hR.2.1]
  exact keep n 0 M0 (by omega) (fun _ _ _ => rfl) (fun i hi => by omega)
end MR
