/-! ONE INSTRUCTION OF THE SMALL MACHINE: lengths, copies, new cells, switches, calls, ends -/
section MN
variable {G : mv_G} {mi n0 s0 : Nat} {post : Option mv_V → mv_SH → mv_Mem → Prop} {pc a b c : Nat} {v : Int} {ts : List Nat} {L : mv_L} {st : List mv_V} {sh : mv_SH} {M : mv_Mem}
variable {NX : mv_L → List mv_V → mv_SH → mv_Mem → Prop} {JP : Nat → mv_L → List mv_V → mv_SH → mv_Mem → Prop}
theorem ms_arraylength (hd : decode (mt_cc (mv_r mi)) pc = .ok (.arraylength, 1)) (hn : mv_RN G mi n0 s0 (pc + 1) post NX)
    (hb : mv_pr st fun k r => if k ≤ sh.1 ∧ sh.2.2.1 k = 100 then NX L (.inl (sh.2.2.2.1 k : Int) :: r) sh M else False) : mv_Run G mi n0 s0 pc L st sh M post := by
  obtain ⟨k, r, rfl, hb2⟩ := mv_pr_s hb
  obtain ⟨⟨h2, h3⟩, hb3⟩ := mv_if_s hb2
  intro p e s m args below meth cx H locs ls C hl hL hS hW hV hn0 hs0
  obtain ⟨hx, hcb, hml, hown, hts, hrt, hlk, hnm, hsz, hX, hbo, hK⟩ := id C
  have hS2 := List.forall_mem_cons.mp hS
  have hle := hW.2.2.2.2 k
  have hR : mv_R32 (sh.2.2.2.1 k : Int) := by constructor <;> omega
  have K := hn _ _ _ _ hb3 p e s m args below meth cx H locs ls C hl hL (List.forall_mem_cons.mpr ⟨hR, hS2.2⟩) hW hV hn0 hs0
  by_cases h0 : k = 0
  · subst h0
    obtain ⟨⟨-, g2, g3⟩, -⟩ := hW.2.2
    refine va_slen (b := mg_b G) hx hcb hX hbo.1 hbo.2 hV hd ?_
    rw [← Int32.ofInt_eq_ofNat, ← g2]
    exact K
  · have he := mv_ws_get (G := G) (M := M) (show 1 ≤ k by omega) h2
    rw [mv_ce_i h3] at he
    exact va_alen hx hcb hK hW.1 (k - 1) 0 he rfl (v := Int32.ofInt (sh.2.2.2.1 k : Int)) Int32.ofInt_eq_ofNat.symm hd K
theorem mv_cp_ne {src sp dst dp n k : Nat} (h : k ≠ dst) (i : Nat) : mv_cp M src sp dst dp n k i = M k i := by
  unfold mv_cp
  rw [if_neg (fun q => h q.1)]
theorem mv_cp_f {α : Type} {src sp dst dp n : Nat} (g : Int → α) : va_cpy (fun i => g (M src i)) (fun i => g (M dst i)) sp dp n = fun i => g (mv_cp M src sp dst dp n dst i) := by
  funext i
  unfold va_cpy mv_cp
  by_cases h : dp ≤ i ∧ i < dp + n
  · rw [if_pos h, if_pos ⟨rfl, h⟩]
  · rw [if_neg h, if_neg (fun q => h q.2)]
theorem mv_nm_cp {src sp dst dp n : Nat} (h : mv_Nm G sh M) (hk : 1 ≤ dst) (ht : sh.2.2.1 src = sh.2.2.1 dst) : mv_Nm G sh (mv_cp M src sp dst dp n) := by
  obtain ⟨⟨a1, a2, a3⟩, a4, a5⟩ := h
  refine ⟨⟨a1, a2, fun i => by rw [mv_cp_ne (by omega)]; exact a3 i⟩, fun k' i => ?_, a5⟩
  unfold mv_cp
  split
  · rename_i hq
    rw [hq.1, ← ht]
    exact a4 src _
  · exact a4 k' i
theorem ms_copy {i : Instr} {ln : Nat} (hd : decode (mt_cc (mv_r mi)) pc = .ok (i, ln)) (hf : mv_fit (mv_r mi) pc ln (.invokestatic 0) a b c v ts i = true) (hn : mv_RN G mi n0 s0 (pc + ln) post NX) (h9 : ¬ c = 1)
    (hb : mv_pi st fun n r => mv_pi r fun dp r => mv_pr r fun d r => mv_pi r fun sp r => mv_pr r fun s r =>
        if (1 ≤ s ∧ s ≤ sh.1 ∧ sh.2.2.1 s = c) ∧ (1 ≤ d ∧ d ≤ sh.1 ∧ sh.2.2.1 d = c) ∧ mv_stw r ≤ 8 then (0 ≤ sp ∧ 0 ≤ dp ∧ 0 ≤ n ∧ sp + n ≤ (sh.2.2.2.1 s : Int) ∧ dp + n ≤ (sh.2.2.2.1 d : Int)) ∧ NX L r sh (mv_cp M s sp.toNat d dp.toNat n.toNat) else False) : mv_Run G mi n0 s0 pc L st sh M post := by
  obtain ⟨n, r, rfl, hb1⟩ := mv_pi_s hb
  obtain ⟨dp, r, rfl, hb2⟩ := mv_pi_s hb1
  obtain ⟨d, r, rfl, hb3⟩ := mv_pr_s hb2
  obtain ⟨sp, r, rfl, hb4⟩ := mv_pi_s hb3
  obtain ⟨k, r, rfl, hb5⟩ := mv_pr_s hb4
  obtain ⟨⟨⟨k1, k2, k3⟩, ⟨d1, d2, d3⟩, hst⟩, ⟨hsp, hdp, hn1, hsl, hdl⟩, hb6⟩ := mv_if_s hb5
  intro p e s m args below meth cx H locs ls C hl hL hS hW hV hn0 hs0
  obtain ⟨hx, hcb, hml, hown, hts, hrt, hlk, hnm, hsz, hX, hbo, hK⟩ := id C
  have hS0 := List.forall_mem_cons.mp hS
  have hnr : mv_R32 n := hS0.1
  have hS1 := List.forall_mem_cons.mp hS0.2
  have hdr : mv_R32 dp := hS1.1
  have hS2 := List.forall_mem_cons.mp (List.forall_mem_cons.mp hS1.2).2
  have hsr : mv_R32 sp := hS2.1
  have hS3 := (List.forall_mem_cons.mp hS2.2).2
  unfold mv_fit at hf
  dsimp only at hf
  cases i with
  | invokestatic idx =>
    dsimp only at hf
    rw [if_neg h9] at hf
    simp only [Bool.and_eq_true, decide_eq_true_eq] at hf
    obtain ⟨rfl, w0, w1, w2, w3, hc, hfr, hlo⟩ := hf
    have hfr := Nat.le_of_ble_eq_true hfr
    have hlo := Nat.le_of_ble_eq_true hlo
    have hes := mv_ws_get (G := G) (M := M) k1 k2
    have hed := mv_ws_get (G := G) (M := M) d1 d2
    have hNm : mv_Nm G sh (mv_cp M k sp.toNat d dp.toNat n.toNat) := mv_nm_cp hW.2.2 d1 (k3.trans d3.symm)
    have hset := mv_ws_set (G := G) (M := M) (M' := mv_cp M k sp.toNat d dp.toNat n.toNat) (sh' := sh) d1 d2 rfl rfl (fun j hj => mv_ce_c rfl rfl (fun _ => rfl) (fun q => mv_cp_ne hj q))
    have hloc : ((r.map (mv_ct G)).map fun v => v.category).sum + (nativeFrameWords "java/lang/System" "arraycopy" 5 + 11) ≤ (mt_rm (mv_r mi)).locals := by
      rw [mv_stw_e]
      have e1 : nativeFrameWords "java/lang/System" "arraycopy" 5 = 7 := by decide +kernel
      rw [e1]
      show _ ≤ mt_lo (mv_r mi)
      omega
    have z0 : ∀ {x : Int}, mv_R32 x → 0 ≤ x → ¬ Int32.ofInt x < 0 := fun hr h q => by
      have := (mv_l32 hr mv_z32).mp q
      omega
    rcases hc with rfl | rfl
    · rw [mv_ce_i k3] at hes
      rw [mv_ce_i d3] at hed hset
      refine va_copyi hx hcb (hml.trans hl.1.symm) hown (hts _ (mv_hw_mem w0)) (hts _ (mv_hw_mem w1)) (hts _ (mv_hw_mem w2)) (hts _ (mv_hw_mem w3)) hK hW.1 hW.2.1 hV (k - 1) (d - 1) 0 0 hes hed rfl rfl rfl (sp := Int32.ofInt sp) (dp := Int32.ofInt dp) (n := Int32.ofInt n) (z0 hsr hsp) (z0 hdr hdp) (z0 hnr hn1) ?_ ?_ (fun _ _ => rfl) hfr hloc hd ?_
      · rw [mv_clamp hsr, mv_clamp hnr]; omega
      · rw [mv_clamp hdr, mv_clamp hnr]; omega
      · rw [mv_clamp hsr, mv_clamp hdr, mv_clamp hnr, mv_cp_f Int32.ofInt, hset]
        exact fun H1 locs1 q1 q2 q3 => hn _ _ _ _ hb6 p e s m args below meth cx H1 locs1 ls C hl hL hS3 ⟨q1, q2, hNm⟩ q3 hn0 hs0
    · rw [mv_ce_j k3] at hes
      rw [mv_ce_j d3] at hed hset
      refine va_copyl hx hcb (hml.trans hl.1.symm) hown (hts _ (mv_hw_mem w0)) (hts _ (mv_hw_mem w1)) (hts _ (mv_hw_mem w2)) (hts _ (mv_hw_mem w3)) hK hW.1 hW.2.1 hV (k - 1) (d - 1) 1 1 hes hed rfl rfl rfl (sp := Int32.ofInt sp) (dp := Int32.ofInt dp) (n := Int32.ofInt n) (z0 hsr hsp) (z0 hdr hdp) (z0 hnr hn1) ?_ ?_ (fun _ _ => rfl) hfr hloc hd ?_
      · rw [mv_clamp hsr, mv_clamp hnr]; omega
      · rw [mv_clamp hdr, mv_clamp hnr]; omega
      · rw [mv_clamp hsr, mv_clamp hdr, mv_clamp hnr, mv_cp_f Int64.ofInt, hset]
        exact fun H1 locs1 q1 q2 q3 => hn _ _ _ _ hb6 p e s m args below meth cx H1 locs1 ls C hl hL hS3 ⟨q1, q2, hNm⟩ q3 hn0 hs0
  | _ => cases hf
/-- where a new cell lies -/
theorem mv_new_at {e : va_E} {q z : Nat} {H1 : Heap} (hD : va_D (mg_A G) (mv_ws G sh M ++ [(q, e)])) (h0 : mv_hp G n0 z) (hn : n0 ≤ sh.1) (hq : q < H1.size) (hz : H1.size ≤ z + (sh.1 - n0) + 1) : q = mg_a G (sh.1 + 1) := by
  have hl : (mv_ws G sh M).length = sh.1 := by unfold mv_ws; rw [List.length_map, List.length_range]
  have hlast : (mv_ws G sh M ++ [(q, e)])[sh.1]? = some (q, e) := by
    rw [List.getElem?_append_right (by omega), hl, Nat.sub_self]
    rfl
  obtain ⟨k, hk1, hk⟩ : mg_A G q := hD.2 _ _ hlast
  rcases Nat.lt_or_ge sh.1 k with h | h
  · have e1 := h0 (k - n0 - 1)
    rw [show n0 + 1 + (k - n0 - 1) = k by omega] at e1
    rw [hk, show k = sh.1 + 1 by omega]
  · exfalso
    have hk0 := mv_ws_get (G := G) (sh := sh) (M := M) (k := k) hk1 h
    have he : mv_ad G k = q := by
      unfold mv_ad
      rw [if_neg (by omega)]
      exact hk.symm
    have hk2 : (mv_ws G sh M ++ [(q, e)])[k - 1]? = some (mv_ad G k, mv_ce G sh M k) := by
      rw [List.getElem?_append_left (by omega)]
      exact hk0
    have := hD.1 _ _ _ _ hk2 hlast he
    omega
theorem mv_new_ad : mv_ad G (sh.1 + 1) = mg_a G (sh.1 + 1) := by
  unfold mv_ad
  rw [if_neg (by omega)]
theorem mv_nmA {n : Nat} (h : mv_Nm G sh M) (ha : 100 ≤ a) (hn : n ≤ 100000) : mv_Nm G (mv_nwA sh a n) (mv_nwM sh M) := by
  obtain ⟨⟨a1, a2, a3⟩, a4, a5⟩ := h
  refine ⟨⟨?_, ?_, fun i => ?_⟩, fun k i => ?_, fun k => ?_⟩
  · show (if 0 = sh.1 + 1 then a else sh.2.2.1 0) = 100
    rw [if_neg (by omega)]; exact a1
  · show (if 0 = sh.1 + 1 then n else sh.2.2.2.1 0) = _
    rw [if_neg (by omega)]; exact a2
  · show (if 0 = sh.1 + 1 then 0 else M 0 i) = _
    rw [if_neg (by omega)]; exact a3 i
  · show mv_R64 (if k = sh.1 + 1 then 0 else M k i) ∧ ((if k = sh.1 + 1 then a else sh.2.2.1 k) ≠ 101 → mv_R32 (if k = sh.1 + 1 then 0 else M k i))
    by_cases hk : k = sh.1 + 1
    · rw [if_pos hk]; exact ⟨mv_z64, fun _ => mv_z32⟩
    · rw [if_neg hk, if_neg hk]; exact a4 k i
  · show (if k = sh.1 + 1 then n else sh.2.2.2.1 k) ≤ 100000
    split
    · exact hn
    · exact a5 k
theorem mv_nmO {n : Nat} (h : mv_Nm G sh M) : mv_Nm G (mv_nwO sh a n) (mv_nwM sh M) := by
  obtain ⟨⟨a1, a2, a3⟩, a4, a5⟩ := h
  refine ⟨⟨?_, a2, fun i => ?_⟩, fun k i => ?_, a5⟩
  · show (if 0 = sh.1 + 1 then a else sh.2.2.1 0) = 100
    rw [if_neg (by omega)]; exact a1
  · show (if 0 = sh.1 + 1 then 0 else M 0 i) = _
    rw [if_neg (by omega)]; exact a3 i
  · show mv_R64 (if k = sh.1 + 1 then 0 else M k i) ∧ ((if k = sh.1 + 1 then a else sh.2.2.1 k) ≠ 101 → mv_R32 (if k = sh.1 + 1 then 0 else M k i))
    by_cases hk : k = sh.1 + 1
    · rw [if_pos hk]; exact ⟨mv_z64, fun _ => mv_z32⟩
    · rw [if_neg hk, if_neg hk]; exact a4 k i
theorem mv_ceA {n k : Nat} (h : k ≠ sh.1 + 1) : mv_ce G (mv_nwA sh a n) (mv_nwM sh M) k = mv_ce G sh M k := by
  refine mv_ce_c ?_ ?_ (fun _ => rfl) (fun i => ?_)
  · exact if_neg h
  · exact if_neg h
  · exact if_neg h
theorem mv_ceO {n k : Nat} (h : k ≠ sh.1 + 1) : mv_ce G (mv_nwO sh a n) (mv_nwM sh M) k = mv_ce G sh M k := by
  refine mv_ce_c ?_ rfl (fun f => ?_) (fun i => ?_)
  · exact if_neg h
  · exact if_neg h
  · exact if_neg h
theorem mv_nwM_0 (i : Nat) : mv_nwM sh M (sh.1 + 1) i = 0 := if_pos rfl
theorem mv_tagA {n : Nat} : (mv_nwA sh a n).2.2.1 (sh.1 + 1) = a := if_pos rfl
theorem mv_lenA {n : Nat} : (mv_nwA sh a n).2.2.2.1 (sh.1 + 1) = n := if_pos rfl
theorem mv_tagO {n : Nat} : (mv_nwO sh a n).2.2.1 (sh.1 + 1) = a := if_pos rfl
theorem mv_refO {n f : Nat} : (mv_nwO sh a n).2.2.2.2 (sh.1 + 1) f = 0 := if_pos rfl
theorem ms_newarray_int {i : Instr} {ln : Nat} (hd : decode (mt_cc (mv_r mi)) pc = .ok (i, ln)) (hf : mv_fit (mv_r mi) pc ln (.newarray .int) a b c v ts i = true) (hn : mv_RN G mi n0 s0 (pc + ln) post NX)
    (hb : mv_pi st fun n r => if 0 ≤ n ∧ n ≤ 100000 ∧ sh.1 + 1 ≤ n0 + mt_mc (mv_r mi) ∧ sh.2.1 + n.toNat ≤ s0 + mt_ms (mv_r mi) then NX L (.inr (.inr (sh.1 + 1)) :: r) (mv_nwA sh a n.toNat) (mv_nwM sh M) else False) : mv_Run G mi n0 s0 pc L st sh M post := by
  obtain ⟨n, r, rfl, hb1⟩ := mv_pi_s hb
  obtain ⟨⟨g1, g2, g3, g4⟩, hb2⟩ := mv_if_s hb1
  intro p e s m args below meth cx H locs ls C hl hL hS hW hV hn0 hs0
  obtain ⟨hx, hcb, hml, hown, hts, hrt, hlk, hnm, hsz, hX, hbo, hK⟩ := id C
  have hS0 := List.forall_mem_cons.mp hS
  have hnr : mv_R32 n := hS0.1
  unfold mv_fit at hf
  dsimp only at hf
  cases i with
  | newarray ty' =>
    simp only [Bool.and_eq_true, decide_eq_true_eq] at hf
    obtain ⟨rfl, rfl, w0, ha, h100⟩ := hf
    have ha : a = 100 := ha
    subst ha
    have hAq : ∀ q, s.heap.size ≤ q → mg_A G q := fun q h => mv_hA hsz h
    refine va_newa hx hcb (atype := .int) (hts _ (mv_hw_mem w0)) rfl hK hW.1 hW.2.1 hV hAq (n := Int32.ofInt n) (N' := n.toNat) (a0 := (n.toNat, .inl fun _ => 0)) (fun cA => rfl) (fun q => by have := (mv_l32 hnr mv_z32).mp q; omega) (mv_clamp hnr) (Nat.le_trans (Nat.mul_le_mul (show n.toNat ≤ 100000 by omega) (show componentBytes .int ≤ 8 by decide)) (by omega)) (by show _ ≤ mt_mc (mv_r mi); omega) (by show _ ≤ mt_ms (mv_r mi); omega) hd (fun q cA H1 hK1 hP1 hD1 hS1 => ?_)
    refine mv_sz (fun hz => ?_)
    have hql : q < H1.size := by
      have h := hP1 sh.1 (q, .inl (cA, (n.toNat, .inl fun _ => 0))) (by
        have hlen : (mv_ws G sh M).length = sh.1 := by unfold mv_ws; rw [List.length_map, List.length_range]
        rw [List.getElem?_append_right (by omega), hlen, Nat.sub_self]
        rfl)
      exact h.lt
    have hq := mv_new_at hD1 hsz hn0.1 hql (by omega)
    subst hq
    have hcA : cA = mg_I G := by
      have h1 := (hK1.2 2 (cA, .int) rfl).2
      have h2 := (hK.2 0 (mg_I G, .int) rfl).2
      exact Option.some.inj (h1.symm.trans h2)
    subst hcA
    have he : mv_ce G (mv_nwA sh 100 n.toNat) (mv_nwM sh M) (sh.1 + 1) = .inl (mg_I G, (n.toNat, .inl fun _ => 0)) := by
      rw [mv_ce_i mv_tagA, mv_lenA]
      have e1 : (fun i => Int32.ofInt (mv_nwM sh M (sh.1 + 1) i)) = fun _ => 0 := funext fun i => by rw [mv_nwM_0]; rfl
      rw [e1]
    have hpush := mv_ws_push (G := G) (sh := sh) (sh' := mv_nwA sh 100 n.toNat) (M := M) (M' := mv_nwM sh M) rfl he (fun j hj => mv_ceA hj)
    rw [hpush] at hP1 hD1
    have K := hn _ _ _ _ hb2 p e s m args below meth cx H1 locs ls C hl hL (List.forall_mem_cons.mpr ⟨trivial, hS0.2⟩) ⟨hP1, hD1, mv_nmA hW.2.2 (by decide) (by omega)⟩ hS1 (show n0 ≤ sh.1 + 1 ∧ sh.1 + 1 ≤ _ by omega) (show s0 ≤ sh.2.1 + n.toNat ∧ sh.2.1 + n.toNat ≤ _ by omega)
    rw [List.map_cons, show mv_ct G (.inr (.inr (sh.1 + 1))) = .ref (mg_a G (sh.1 + 1)) from congrArg Value.ref mv_new_ad] at K
    exact W.cs (show sh.1 - n0 + 1 = sh.1 + 1 - n0 by omega) (show sh.2.1 - s0 + n.toNat = sh.2.1 + n.toNat - s0 by omega) K
  | _ => cases hf
theorem ms_newarray_long {i : Instr} {ln : Nat} (hd : decode (mt_cc (mv_r mi)) pc = .ok (i, ln)) (hf : mv_fit (mv_r mi) pc ln (.newarray .long) a b c v ts i = true) (hn : mv_RN G mi n0 s0 (pc + ln) post NX)
    (hb : mv_pi st fun n r => if 0 ≤ n ∧ n ≤ 100000 ∧ sh.1 + 1 ≤ n0 + mt_mc (mv_r mi) ∧ sh.2.1 + n.toNat ≤ s0 + mt_ms (mv_r mi) then NX L (.inr (.inr (sh.1 + 1)) :: r) (mv_nwA sh a n.toNat) (mv_nwM sh M) else False) : mv_Run G mi n0 s0 pc L st sh M post := by
  obtain ⟨n, r, rfl, hb1⟩ := mv_pi_s hb
  obtain ⟨⟨g1, g2, g3, g4⟩, hb2⟩ := mv_if_s hb1
  intro p e s m args below meth cx H locs ls C hl hL hS hW hV hn0 hs0
  obtain ⟨hx, hcb, hml, hown, hts, hrt, hlk, hnm, hsz, hX, hbo, hK⟩ := id C
  have hS0 := List.forall_mem_cons.mp hS
  have hnr : mv_R32 n := hS0.1
  unfold mv_fit at hf
  dsimp only at hf
  cases i with
  | newarray ty' =>
    simp only [Bool.and_eq_true, decide_eq_true_eq] at hf
    obtain ⟨rfl, rfl, w0, ha, h100⟩ := hf
    have ha : a = 101 := ha
    subst ha
    have hAq : ∀ q, s.heap.size ≤ q → mg_A G q := fun q h => mv_hA hsz h
    refine va_newa hx hcb (atype := .long) (hts _ (mv_hw_mem w0)) rfl hK hW.1 hW.2.1 hV hAq (n := Int32.ofInt n) (N' := n.toNat) (a0 := (n.toNat, .inr (.inl fun _ => 0))) (fun cA => rfl) (fun q => by have := (mv_l32 hnr mv_z32).mp q; omega) (mv_clamp hnr) (Nat.le_trans (Nat.mul_le_mul (show n.toNat ≤ 100000 by omega) (show componentBytes .long ≤ 8 by decide)) (by omega)) (by show _ ≤ mt_mc (mv_r mi); omega) (by show _ ≤ mt_ms (mv_r mi); omega) hd (fun q cA H1 hK1 hP1 hD1 hS1 => ?_)
    refine mv_sz (fun hz => ?_)
    have hql : q < H1.size := by
      have h := hP1 sh.1 (q, .inl (cA, (n.toNat, .inr (.inl fun _ => 0)))) (by
        have hlen : (mv_ws G sh M).length = sh.1 := by unfold mv_ws; rw [List.length_map, List.length_range]
        rw [List.getElem?_append_right (by omega), hlen, Nat.sub_self]
        rfl)
      exact h.lt
    have hq := mv_new_at hD1 hsz hn0.1 hql (by omega)
    subst hq
    have hcA : cA = mg_J G := by
      have h1 := (hK1.2 2 (cA, .long) rfl).2
      have h2 := (hK.2 1 (mg_J G, .long) rfl).2
      exact Option.some.inj (h1.symm.trans h2)
    subst hcA
    have he : mv_ce G (mv_nwA sh 101 n.toNat) (mv_nwM sh M) (sh.1 + 1) = .inl (mg_J G, (n.toNat, .inr (.inl fun _ => 0))) := by
      rw [mv_ce_j mv_tagA, mv_lenA]
      have e1 : (fun i => Int64.ofInt (mv_nwM sh M (sh.1 + 1) i)) = fun _ => 0 := funext fun i => by rw [mv_nwM_0]; rfl
      rw [e1]
    have hpush := mv_ws_push (G := G) (sh := sh) (sh' := mv_nwA sh 101 n.toNat) (M := M) (M' := mv_nwM sh M) rfl he (fun j hj => mv_ceA hj)
    rw [hpush] at hP1 hD1
    have K := hn _ _ _ _ hb2 p e s m args below meth cx H1 locs ls C hl hL (List.forall_mem_cons.mpr ⟨trivial, hS0.2⟩) ⟨hP1, hD1, mv_nmA hW.2.2 (by decide) (by omega)⟩ hS1 (show n0 ≤ sh.1 + 1 ∧ sh.1 + 1 ≤ _ by omega) (show s0 ≤ sh.2.1 + n.toNat ∧ sh.2.1 + n.toNat ≤ _ by omega)
    rw [List.map_cons, show mv_ct G (.inr (.inr (sh.1 + 1))) = .ref (mg_a G (sh.1 + 1)) from congrArg Value.ref mv_new_ad] at K
    exact W.cs (show sh.1 - n0 + 1 = sh.1 + 1 - n0 by omega) (show sh.2.1 - s0 + n.toNat = sh.2.1 + n.toNat - s0 by omega) K
  | _ => cases hf
theorem ms_newarray_boolean {i : Instr} {ln : Nat} (hd : decode (mt_cc (mv_r mi)) pc = .ok (i, ln)) (hf : mv_fit (mv_r mi) pc ln (.newarray .boolean) a b c v ts i = true) (hn : mv_RN G mi n0 s0 (pc + ln) post NX)
    (hb : mv_pi st fun n r => if 0 ≤ n ∧ n ≤ 100000 ∧ sh.1 + 1 ≤ n0 + mt_mc (mv_r mi) ∧ sh.2.1 + n.toNat ≤ s0 + mt_ms (mv_r mi) then NX L (.inr (.inr (sh.1 + 1)) :: r) (mv_nwA sh a n.toNat) (mv_nwM sh M) else False) : mv_Run G mi n0 s0 pc L st sh M post := by
  obtain ⟨n, r, rfl, hb1⟩ := mv_pi_s hb
  obtain ⟨⟨g1, g2, g3, g4⟩, hb2⟩ := mv_if_s hb1
  intro p e s m args below meth cx H locs ls C hl hL hS hW hV hn0 hs0
  obtain ⟨hx, hcb, hml, hown, hts, hrt, hlk, hnm, hsz, hX, hbo, hK⟩ := id C
  have hS0 := List.forall_mem_cons.mp hS
  have hnr : mv_R32 n := hS0.1
  unfold mv_fit at hf
  dsimp only at hf
  cases i with
  | newarray ty' =>
    simp only [Bool.and_eq_true, decide_eq_true_eq] at hf
    obtain ⟨rfl, rfl, w0, ha, h100⟩ := hf
    have ha : a = 102 := ha
    subst ha
    exact ((show ¬ Cond.arrayClass .boolean ∈ lw_tbl by decide +kernel) (List.mem_filter.mp (mv_hw_mem w0)).1).elim
  | _ => cases hf
theorem mv_df (ha : a < 12) (hb : b < mv_nf a) : defaultValue (mv_ty a b) = if mv_kd a b = 2 then .null else .int 0 := by
  have h := mv_kd_le ha hb
  unfold mv_kd at h ⊢
  cases ht : mv_ty a b with
  | int => rfl
  | boolean => rfl
  | object n => rfl
  | array t => rfl
  | _ => rw [ht] at h; simp at h
theorem ms_new {i : Instr} {ln : Nat} (hd : decode (mt_cc (mv_r mi)) pc = .ok (i, ln)) (hf : mv_fit (mv_r mi) pc ln (.new 0) a b c v ts i = true) (hn : mv_RN G mi n0 s0 (pc + ln) post NX)
    (hb : if sh.1 + 1 ≤ n0 + mt_mc (mv_r mi) ∧ sh.2.1 + b ≤ s0 + mt_ms (mv_r mi) then NX L (.inr (.inr (sh.1 + 1)) :: st) (mv_nwO sh a b) (mv_nwM sh M) else False) : mv_Run G mi n0 s0 pc L st sh M post := by
  obtain ⟨⟨g3, g4⟩, hb2⟩ := mv_if_s hb
  intro p e s m args below meth cx H locs ls C hl hL hS hW hV hn0 hs0
  obtain ⟨hx, hcb, hml, hown, hts, hrt, hlk, hnm, hsz, hX, hbo, hK⟩ := id C
  unfold mv_fit at hf
  dsimp only at hf
  cases i with
  | new idx =>
    rw [Bool.and_eq_true, decide_eq_true_eq] at hf
    obtain ⟨rfl, hf⟩ := hf
    split at hf
    · rename_i C' T N hC
      simp only [Bool.and_eq_true, decide_eq_true_eq] at hf
      obtain ⟨rfl, w0, w1, w2⟩ := hf
      obtain ⟨hin, hty, hnm2, hN, h100⟩ := mv_cls hC
      have ha13 : a < 12 := (List.getElem?_eq_some_iff.mp hC).1
      have hfs : ∀ j, j < N → defaultValue (mv_ty a j) = vp_V ((List.range N).map (mv_fv G (mv_nwO sh a N) (mv_nwM sh M) a (sh.1 + 1))) j := by
        intro j hj
        rw [mv_df ha13 (by rw [hN]; exact hj)]
        unfold vp_V
        rw [List.getD_eq_getElem?_getD, List.getElem?_map, List.getElem?_range hj]
        show _ = mv_fv G (mv_nwO sh a N) (mv_nwM sh M) a (sh.1 + 1) j
        unfold mv_fv
        rw [mv_refO, mv_nwM_0, if_pos rfl]
        rfl
      have hAq : ∀ q, s.heap.size ≤ q → mg_A G q := fun q h => mv_hA hsz h
      refine va_new hx hcb hts hin (mv_ty a) hty hown (hts _ (mv_hw_mem w0)) (hts _ (mv_hw_mem w1)) (hts _ (mv_hw_mem w2)) hK hW.1 hW.2.1 hV hAq hC hfs (by show _ ≤ mt_mc (mv_r mi); omega) (by show _ ≤ mt_ms (mv_r mi); omega) hd (fun q H1 hP1 hD1 hS1 => ?_)
      refine mv_sz (fun hz => ?_)
      have hql : q < H1.size := by
        have h := hP1 sh.1 (q, .inr (a, (List.range N).map (mv_fv G (mv_nwO sh a N) (mv_nwM sh M) a (sh.1 + 1)))) (by
          have hlen : (mv_ws G sh M).length = sh.1 := by unfold mv_ws; rw [List.length_map, List.length_range]
          rw [List.getElem?_append_right (by omega), hlen, Nat.sub_self]
          rfl)
        exact h.lt
      have hq := mv_new_at hD1 hsz hn0.1 hql (by omega)
      subst hq
      have he : mv_ce G (mv_nwO sh a N) (mv_nwM sh M) (sh.1 + 1) = .inr (a, (List.range N).map (mv_fv G (mv_nwO sh a N) (mv_nwM sh M) a (sh.1 + 1))) := by
        rw [mv_ce_o mv_tagO h100, hN]
      have hpush := mv_ws_push (G := G) (sh := sh) (sh' := mv_nwO sh a N) (M := M) (M' := mv_nwM sh M) rfl he (fun j hj => mv_ceO hj)
      rw [hpush] at hP1 hD1
      have K := hn _ _ _ _ hb2 p e s m args below meth cx H1 locs ls C hl hL (List.forall_mem_cons.mpr ⟨trivial, hS⟩) ⟨hP1, hD1, mv_nmO hW.2.2⟩ hS1 (show n0 ≤ sh.1 + 1 ∧ sh.1 + 1 ≤ _ by omega) (show s0 ≤ sh.2.1 + N ∧ sh.2.1 + N ≤ _ by omega)
      rw [List.map_cons, show mv_ct G (.inr (.inr (sh.1 + 1))) = .ref (mg_a G (sh.1 + 1)) from congrArg Value.ref mv_new_ad] at K
      exact W.cs (show sh.1 - n0 + 1 = sh.1 + 1 - n0 by omega) (show sh.2.1 - s0 + N = sh.2.1 + N - s0 by omega) K
    · cases hf
  | _ => cases hf
end MN
