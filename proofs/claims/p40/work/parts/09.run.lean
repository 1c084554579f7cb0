/-! THE SMALL MACHINE: calls, ends, switches; a whole method -/
section MR
variable {G : mv_G} {mi n0 s0 : Nat} {post : Option mv_V → mv_SH → mv_Mem → Prop} {pc a b c : Nat} {v : Int} {ts : List Nat} {L : mv_L} {st : List mv_V} {sh : mv_SH} {M : mv_Mem}
variable {NX : mv_L → List mv_V → mv_SH → mv_Mem → Prop} {JP : Nat → mv_L → List mv_V → mv_SH → mv_Mem → Prop}
theorem mv_pay {w : Jvm.Cond} {args : Array Value} {s : State} (hg : mv_gd w = true) (hw : w.before args s = true) (a' : Array Value) (U : State) (hW : s.WarmedH U.vm) : w.before a' U = true := by
  cases w <;> first | exact word_at hW (good_of_word hg) hw | exact va_Nw.use rfl (va_Nw.warmM hW (va_Nw.of rfl hw))
theorem mv_wl_ok {q : mv_T} {args : Array Value} {s : State} (hts : ∀ w ∈ mv_tbl, w.before args s = true) (hc : Jvm.Cond.code (mt_y q) (mt_cc q) (mt_nL q) (mt_ret q) ∈ mv_tbl) : ∀ w ∈ mv_wl q, ∀ (a' : Array Value) (U : State), s.WarmedH U.vm → w.before a' U = true := by
  intro w hw a' U hW
  have hm : w ∈ mv_tbl := by
    rcases List.mem_cons.mp hw with rfl | h
    · exact hc
    · exact h
  exact mv_pay (List.mem_filter.mp hm).2 (hts w hm) a' U hW
theorem mv_blind {as : List mv_V} : FrameBlind (mv_Pc G as sh M) := by
  intro x U g mk q
  obtain ⟨h1, h2, h3, h4, h5, h6, h7⟩ := q
  exact ⟨h1, h2, h3, va_K.moved (u := U) (U := U.calling g mk x) (Vm.Alike.refl U.vm) h4, va_X.moved (u := U) (U := U.calling g mk x) (Vm.Alike.refl U.vm) h5, h6, h7⟩
theorem mv_pre {p : Program} {s : State} {m : MethodId} {args : Array Value} {meth : Method} {cx : Code} {H : Heap} {locs : List Loc} {as : List mv_V} (C : mv_Cx G mi n0 p s m args meth cx) (hW : mv_Wd G sh M H) (hV : va_S (mg_A G) s.heap H locs) (hn : n0 ≤ sh.1) (hz : H.size ≤ s.heap.size + (sh.1 - n0)) (ha : ∀ x ∈ as, mv_ov x) :
    ∀ U : State, U.heap = H → s.WarmedH U.vm → mv_Pc G as sh M (as.map (mv_ct G)).toArray U := by
  obtain ⟨hx, hcb, hml, hown, hts, hrt, hlk, hnm, hsz, hX, hbo, hK⟩ := C
  intro U hU hWm
  have hlow := mv_low hW hV hsz hn
  have hX2 := va_X.moved hWm.alike (va_X.kept hX (hV.2.1 (mg_b G) hbo.1 hbo.2))
  refine ⟨rfl, fun j => ?_, by rw [hU]; exact hW, va_K.moved hWm.alike hK, by rw [hU]; exact hX2, ⟨?_, hbo.2⟩, ha⟩
  · rw [hU, show sh.1 + 1 + j = n0 + 1 + (sh.1 - n0 + j) by omega, hsz]
    omega
  · rw [hU]
    exact Nat.lt_of_lt_of_le hbo.1 hV.1
/-- behind a call -/
theorem mv_cont {p : Program} {l : Launch} {e : Env} {R : Room} {s : State} {m : MethodId} {args : Array Value} {below : List Frame} {meth : Method} {cx : Code} {H : Heap} {locs : List Loc} {cells slots k1 k2 k n1 s1 : Nat} (hk9 : k < 150) {Q : State → Prop} {ls : Array Slot} {rest st0 : List Value} {Φ : Option mv_V → mv_SH → mv_Mem → Prop} {x : Array Value}
    (hr : va_Run p l e R s m args below meth cx H locs cells slots k1 k2 (F0 m pc ls st0) rest (mv_Po G k n1 s1 Φ x) (mg_A G)) (hS : va_S (mg_A G) s.heap H locs)
    (kk : ∀ (r : Option mv_V) (sh' : mv_SH) (M' : mv_Mem) (H1 : Heap) (locs1 : List Loc), Φ r sh' M' → (∀ z, r = some z → mv_ov z) → sh'.1 = n1 → sh'.2.1 = s1 → mv_Wd G sh' M' H1 → va_S (mg_A G) s.heap H1 locs1 → W p l e R s m args below meth cx H1 locs1 (cells + k1) (slots + k2) Q (F0 m (pc + 3) ls ((r.map (mv_ct G)).toList ++ rest))) :
    W p l e R s m args below meth cx H locs cells slots Q (F0 m pc ls st0) := by
  intro T hT X
  obtain ⟨v, st₀, t, T', L, h0, X', hL, e1, e2, ⟨⟨r, sh', M', hv, hov, hΦ, h12, hW1⟩, hz, hk⟩, st⟩ := hr T hT X
  obtain ⟨h1, h2⟩ : sh'.1 = n1 ∧ sh'.2.1 = s1 := h12.elim (fun z => absurd z (by omega)) id
  cases hv
  rw [h0] at hz hk
  obtain ⟨t2, a1, b1⟩ := kk r sh' M' T'.heap (locs ++ L) hΦ hov h1 h2 (by rw [e1]; exact hW1)
    ⟨Nat.le_trans hS.1 (by rw [e1]; exact hz), fun q h1 h2 => by rw [e1, hk q (Nat.lt_of_lt_of_le h1 hS.1) h2]; exact hS.2.1 q h1 h2, fun q hq => by
      rcases List.mem_append.mp hq with h | h
      · exact hS.2.2 q h
      · exact hL q h⟩ T' rfl X'
  exact ⟨t2, st t2 a1, b1⟩
theorem mv_lk_s {own : String} {idx : Nat} {y : MethodName} (h : mv_lk ts own idx y = true) : Jvm.Cond.methodLink own idx y ∈ mv_tbl ∨ ∃ host, Jvm.Cond.methodLinkNest own idx y host ∈ mv_tbl := by
  unfold mv_lk at h
  rw [Bool.or_eq_true] at h
  rcases h with h | h
  · exact Or.inl (mv_hw_mem h)
  · split at h
    · rename_i o j z host heq
      simp only [Bool.and_eq_true, decide_eq_true_eq] at h
      obtain ⟨rfl, rfl, rfl⟩ := h
      refine Or.inr ⟨host, List.mem_filter.mpr ⟨?_, rfl⟩⟩
      cases ht : ts[0]? with
      | none => rw [ht] at heq; cases heq
      | some i => rw [ht] at heq; exact List.mem_of_getElem? heq
    · cases h
theorem mv_cl_s {r q : mv_T} {n : Nat} (h : mv_cl r q n = true) : ((mt_y q).cls ≠ "java/lang/invoke/MethodHandle" ∧ (mt_y q).cls ≠ "java/lang/invoke/VarHandle") ∧ (∀ sig, parseMethodDescriptor (mt_y q).desc = some sig → n = sig.parameters.length) ∧ mt_fr q + 1 ≤ mt_fr r ∧ 8 + (mt_nL q + 11) + mt_lo q ≤ mt_lo r := by
  unfold mv_cl at h
  simp only [Bool.and_eq_true, decide_eq_true_eq] at h
  obtain ⟨h1, h2, h3, h4, -⟩ := h
  refine ⟨h1, fun sig hs => ?_, Nat.le_of_ble_eq_true h3, Nat.le_of_ble_eq_true h4⟩
  rw [hs] at h2
  exact (Option.some.inj h2).symm
theorem mv_cl_k {r q : mv_T} {n : Nat} (h : mv_cl r q n = true) : mt_mc q < 150 := by
  unfold mv_cl at h
  simp only [Bool.and_eq_true] at h
  exact Nat.le_of_ble_eq_true h.2.2.2.2
theorem mv_tk {x : mv_V} {As : List mv_V} (h : (st.take b).reverse = x :: As) : st = As.reverse ++ x :: st.drop b := by
  have h1 : st.take b = (x :: As).reverse := by rw [← h, List.reverse_reverse]
  have h2 := List.take_append_drop b st
  rw [h1, List.reverse_cons, List.append_assoc] at h2
  exact h2.symm
theorem mv_tk0 : st = ((st.take b).reverse).reverse ++ st.drop b := by rw [List.reverse_reverse, List.take_append_drop]
theorem mv_rl (r : Option mv_V) (rest : List mv_V) : (r.map (mv_ct G)).toList ++ rest.map (mv_ct G) = (r.toList ++ rest).map (mv_ct G) := by cases r <;> rfl
theorem mv_rl_o {r : Option mv_V} {rest : List mv_V} (h : ∀ z, r = some z → mv_ov z) (hr : ∀ x ∈ rest, mv_ov x) : ∀ x ∈ r.toList ++ rest, mv_ov x := by
  intro x hx
  rcases List.mem_append.mp hx with h1 | h1
  · cases r with
    | none => cases h1
    | some z => rw [List.mem_singleton.mp h1]; exact h z rfl
  · exact hr x h1
theorem mv_lenA2 {x : mv_V} {As : List mv_V} (h : (st.take b).reverse = x :: As) (hl : b ≤ st.length) : As.length = b - 1 := by
  have := congrArg List.length h
  rw [List.length_reverse, List.length_take, List.length_cons] at this
  omega
/-- a weaker end -/
theorem mv_mono {as : List mv_V} {Φ Ψ : Option mv_V → mv_SH → mv_Mem → Prop} (h : mv_Wp G a as sh M Φ) (hi : ∀ r sh' M', Φ r sh' M' → Ψ r sh' M') : mv_Wp G a as sh M Ψ := by
  refine ⟨h.1, MetFree.mono h.2 (fun _ _ q => q) (fun _ _ _ _ _ q => q) (fun x st o t _ q => ?_)⟩
  obtain ⟨⟨⟨r, sh', M', e1, e2, e3, e4⟩, e5⟩, e6⟩ := q
  exact ⟨⟨⟨r, sh', M', e1, e2, hi _ _ _ e3, e4⟩, e5⟩, e6⟩
theorem mv_three {as rest : List mv_V} (h : if v = 1 then mv_Wp G a as sh M (mv_qi sh fun x M' => NX L (.inl x :: rest) sh M') else if v = 2 then mv_Wp G a as sh M (mv_ql sh fun x M' => NX L (.inr (.inl x) :: rest) sh M') else mv_Wp G a as sh M (mv_qv sh fun M' => NX L rest sh M')) :
    mv_Wp G a as sh M (fun r sh' M' => NX L (r.toList ++ rest) sh' M') := by
  split at h
  · exact mv_mono h (fun r sh' M' q => by obtain ⟨rfl, x, rfl, q⟩ := q; exact q)
  · split at h
    · exact mv_mono h (fun r sh' M' q => by obtain ⟨rfl, x, rfl, q⟩ := q; exact q)
    · exact mv_mono h (fun r sh' M' q => by obtain ⟨rfl, rfl, q⟩ := q; exact q)
theorem ms_virtual {i : Instr} {ln : Nat} (hd : decode (mt_cc (mv_r mi)) pc = .ok (i, ln)) (hf : mv_fit (mv_r mi) pc ln (.invokevirtual 0) a b c v ts i = true) (hn : mv_RN G mi n0 s0 (pc + ln) post NX)
    (hb : match (st.take b).reverse with
        | .inr (.inr k) :: As => if (1 ≤ k ∧ k ≤ sh.1 ∧ sh.2.2.1 k = c) ∧ mv_stw (st.drop b) ≤ 8 ∧ b ≤ st.length then (if v = 1 then mv_Wp G a (.inr (.inr k) :: As) sh M (mv_qi sh fun x M' => NX L (.inl x :: st.drop b) sh M') else if v = 2 then mv_Wp G a (.inr (.inr k) :: As) sh M (mv_ql sh fun x M' => NX L (.inr (.inl x) :: st.drop b) sh M') else mv_Wp G a (.inr (.inr k) :: As) sh M (mv_qv sh fun M' => NX L (st.drop b) sh M')) else False
        | _ => False) : mv_Run G mi n0 s0 pc L st sh M post := by
  split at hb
  · rename_i k As hst
    obtain ⟨⟨⟨h1, h2, h3⟩, h4, h5⟩, hb⟩ := mv_if_s hb
    obtain ⟨hcode, hM⟩ := mv_three hb
    intro p e s m args below meth cx H locs ls C hl hL hS hW hV hn0 hs0
    obtain ⟨hx, hcb, hml, hown, hts, hrt, hlk, hnm, hsz, hX, hbo, hK⟩ := id C
    have hst2 := mv_tk hst
    have hSa : ∀ x ∈ (.inr (.inr k) :: As : List mv_V), mv_ov x := fun x hx => hS x (by
      rw [hst2]
      rcases List.mem_cons.mp hx with rfl | h
      · exact List.mem_append_right _ List.mem_cons_self
      · exact List.mem_append_left _ (List.mem_reverse.mpr h))
    have hSr : ∀ x ∈ st.drop b, mv_ov x := fun x hx => hS x (List.mem_of_mem_drop hx)
    unfold mv_fit at hf
    dsimp only at hf
    cases i with
    | invokevirtual idx =>
      simp only [Bool.and_eq_true, decide_eq_true_eq] at hf
      obtain ⟨rfl, w0, w1, w2, w3, hcn, ⟨hmc, hms⟩, hb1, hcl⟩ := hf
      have hb1 := Nat.le_of_ble_eq_true hb1
      obtain ⟨hy, hlen, hfr, hlo⟩ := mv_cl_s hcl
      obtain ⟨q, hq, hqc⟩ := Option.map_eq_some_iff.mp hcn
      obtain ⟨C', T, N⟩ := q
      have hqc : C' = (mt_y (mv_r a)).cls := hqc
      obtain ⟨-, -, -, -, h100⟩ := mv_cls hq
      have he := mv_ws_get (G := G) (M := M) h1 h2
      rw [mv_ce_o h3 h100] at he
      rw [hmc, hms] at hM
      refine mv_sz (fun hz => ?_)
      have cw : CallW (mt_rm (mv_r mi)) s args (mt_own (mv_r mi)) (mt_y (mv_r a)).cls idx (mt_y (mv_r a)) (mt_cc (mv_r a)) (mt_nL (mv_r a)) (mt_ret (mv_r a)) (mv_wl (mv_r a)) (mt_rm (mv_r a)) 0 0 (b - 1) :=
        ⟨⟨hmc, hms, hfr, hlo, mv_wl_ok hts hcode, List.mem_cons_self, hts _ hcode, hts _ (mv_hw_mem w3), hy, hlen, hts _ (mv_hw_mem w0)⟩, hts _ (mv_hw_mem w1), hts _ (mv_hw_mem w2)⟩
      have hrecv := va_recv hK hW.1 hq he
      rw [hqc] at hrecv
      refine mv_cont (show 0 < 150 by omega) (va_runV (As := As.map (mv_ct G)) (rest := (st.drop b).map (mv_ct G)) ⟨hx, hcb, hml, hown, hts⟩ hM cw ⟨mv_blind, hrecv, mv_pre C hW hV hn0.1 hz hSa⟩ rfl (by rw [List.length_map]; exact mv_lenA2 hst h5) hl.1 ?_ (lv_room (by rw [mv_stw_e]; exact h4)) hd ⟨by show _ ≤ mt_mc (mv_r mi); omega, by show _ ≤ mt_ms (mv_r mi); omega⟩) hV (fun r sh' M' H1 locs1 hΦ hov g1 g2 hW1 hS1 => ?_)
      · have h := congrArg (List.map (mv_ct G)) hst2
        rw [List.map_append, List.map_reverse, List.map_cons] at h
        exact h
      · have K := hn _ _ _ _ hΦ p e s m args below meth cx H1 locs1 ls C hl hL (mv_rl_o hov hSr) hW1 hS1 (by omega) (by omega)
        rw [mv_rl]
        exact W.cs (by omega) (by omega) K
    | _ => cases hf
  · exact hb.elim
theorem ms_static {i : Instr} {ln : Nat} (hd : decode (mt_cc (mv_r mi)) pc = .ok (i, ln)) (hf : mv_fit (mv_r mi) pc ln (.invokestatic 0) a b c v ts i = true) (hn : mv_RN G mi n0 s0 (pc + ln) post NX) (h9 : c = 1)
    (hb : if mv_stw (st.drop b) ≤ 8 ∧ b ≤ st.length then (if v = 1 then mv_Wp G a (st.take b).reverse sh M (mv_qi sh fun x M' => NX L (.inl x :: st.drop b) sh M') else if v = 2 then mv_Wp G a (st.take b).reverse sh M (mv_ql sh fun x M' => NX L (.inr (.inl x) :: st.drop b) sh M') else mv_Wp G a (st.take b).reverse sh M (mv_qv sh fun M' => NX L (st.drop b) sh M')) else False) : mv_Run G mi n0 s0 pc L st sh M post := by
  obtain ⟨⟨h4, h5⟩, hb⟩ := mv_if_s hb
  obtain ⟨hcode, hM⟩ := mv_three hb
  intro p e s m args below meth cx H locs ls C hl hL hS hW hV hn0 hs0
  obtain ⟨hx, hcb, hml, hown, hts, hrt, hlk, hnm, hsz, hX, hbo, hK⟩ := id C
  have hSa : ∀ x ∈ (st.take b).reverse, mv_ov x := fun x hx => hS x (List.mem_of_mem_take (List.mem_reverse.mp hx))
  have hSr : ∀ x ∈ st.drop b, mv_ov x := fun x hx => hS x (List.mem_of_mem_drop hx)
  unfold mv_fit at hf
  dsimp only at hf
  cases i with
  | invokestatic idx =>
    dsimp only at hf
    rw [if_pos h9] at hf
    simp only [Bool.and_eq_true, decide_eq_true_eq] at hf
    obtain ⟨rfl, w0, w1, w2, ⟨hmc, hms⟩, hcl⟩ := hf
    obtain ⟨hy, hlen, hfr, hlo⟩ := mv_cl_s hcl
    rw [hmc, hms] at hM
    refine mv_sz (fun hz => ?_)
    have hlenA : (((st.take b).reverse).map (mv_ct G)).length = b := by rw [List.length_map, List.length_reverse, List.length_take]; omega
    have hstk : st.map (mv_ct G) = (((st.take b).reverse).map (mv_ct G)).reverse ++ (st.drop b).map (mv_ct G) := by
      rw [← List.map_reverse, ← List.map_append, ← mv_tk0]
    have kk : ∀ (r : Option mv_V) (sh' : mv_SH) (M' : mv_Mem) (H1 : Heap) (locs1 : List Loc), NX L (r.toList ++ st.drop b) sh' M' → (∀ z, r = some z → mv_ov z) → sh'.1 = sh.1 + 0 → sh'.2.1 = sh.2.1 + 0 → mv_Wd G sh' M' H1 → va_S (mg_A G) s.heap H1 locs1 → W p (mg_l G) e (mt_rm (mv_r mi)) s m args below meth cx H1 locs1 (sh.1 - n0 + 0) (sh.2.1 - s0 + 0) (MQ below (mv_Po G (mt_mc (mv_r mi)) (n0 + mt_mc (mv_r mi)) (s0 + mt_ms (mv_r mi)) post) args s (mt_mc (mv_r mi)) (mt_ms (mv_r mi)) (mg_A G)) (F0 m (pc + 3) ls ((r.map (mv_ct G)).toList ++ (st.drop b).map (mv_ct G))) := by
      intro r sh' M' H1 locs1 hΦ hov g1 g2 hW1 hS1
      have K := hn _ _ _ _ hΦ p e s m args below meth cx H1 locs1 ls C hl hL (mv_rl_o hov hSr) hW1 hS1 (by omega) (by omega)
      rw [mv_rl]
      exact W.cs (by omega) (by omega) K
    rcases mv_lk_s w0 with hw | ⟨host, hw⟩
    · have cw : CallB (mt_rm (mv_r mi)) s args (mt_own (mv_r mi)) idx (mt_y (mv_r a)) (mt_cc (mv_r a)) (mt_nL (mv_r a)) (mt_ret (mv_r a)) (mv_wl (mv_r a)) (mt_rm (mv_r a)) 0 0 b ∧ (Cond.static (mt_y (mv_r a))).before args s = true :=
        ⟨⟨hmc, hms, hfr, hlo, mv_wl_ok hts hcode, List.mem_cons_self, hts _ hcode, hts _ (mv_hw_mem w2), hy, hlen, hts _ hw⟩, hts _ (mv_hw_mem w1)⟩
      exact mv_cont (show 0 < 150 by omega) (va_runS (As := ((st.take b).reverse).map (mv_ct G)) (rest := (st.drop b).map (mv_ct G)) ⟨hx, hcb, hml, hown, hts⟩ hM cw ⟨mv_blind, mv_pre C hW hV hn0.1 hz hSa⟩ rfl hlenA hl.1 hstk (lv_room (by rw [mv_stw_e]; exact h4)) hd ⟨by show _ ≤ mt_mc (mv_r mi); omega, by show _ ≤ mt_ms (mv_r mi); omega⟩) hV kk
    · have cw : va_CN (mt_rm (mv_r mi)) s args (mt_own (mv_r mi)) idx (mt_y (mv_r a)) host (mt_cc (mv_r a)) (mt_nL (mv_r a)) (mt_ret (mv_r a)) (mv_wl (mv_r a)) (mt_rm (mv_r a)) 0 0 b ∧ (Cond.static (mt_y (mv_r a))).before args s = true ∧ True :=
        ⟨⟨⟨hmc, hms, hfr, hlo, mv_wl_ok hts hcode, List.mem_cons_self⟩, hts _ hcode, hts _ (mv_hw_mem w2), hy, hlen, hts _ hw⟩, hts _ (mv_hw_mem w1), trivial⟩
      exact mv_cont (show 0 < 150 by omega) (va_runSN (As := ((st.take b).reverse).map (mv_ct G)) (rest := (st.drop b).map (mv_ct G)) ⟨hx, hcb, hml, hown, hts⟩ hM cw ⟨mv_blind, mv_pre C hW hV hn0.1 hz hSa⟩ rfl hlenA hl.1 hstk (lv_room (by rw [mv_stw_e]; exact h4)) hd ⟨by show _ ≤ mt_mc (mv_r mi); omega, by show _ ≤ mt_ms (mv_r mi); omega⟩) hV kk
  | _ => cases hf
theorem ms_special {i : Instr} {ln : Nat} (hd : decode (mt_cc (mv_r mi)) pc = .ok (i, ln)) (hf : mv_fit (mv_r mi) pc ln (.invokespecial 0) a b c v ts i = true) (hn : mv_RN G mi n0 s0 (pc + ln) post NX) (h9 : ¬ c = 1)
    (hb : match (st.take b).reverse with
        | .inr (.inr k) :: As => if mv_stw (st.drop b) ≤ 8 ∧ b ≤ st.length ∧ sh.1 + (c - 2) ≤ n0 + mt_mc (mv_r mi) ∧ sh.2.1 + v.toNat ≤ s0 + mt_ms (mv_r mi) then mv_Wp G a (.inr (.inr k) :: As) sh M (fun r sh' M' => NX L (r.toList ++ st.drop b) sh' M') else False
        | _ => False) : mv_Run G mi n0 s0 pc L st sh M post := by
  split at hb
  · rename_i k As hst
    obtain ⟨⟨h4, h5, h6, h7⟩, hcode, hM⟩ := mv_if_s hb
    intro p e s m args below meth cx H locs ls C hl hL hS hW hV hn0 hs0
    obtain ⟨hx, hcb, hml, hown, hts, hrt, hlk, hnm, hsz, hX, hbo, hK⟩ := id C
    have hst2 := mv_tk hst
    have hSa : ∀ x ∈ (.inr (.inr k) :: As : List mv_V), mv_ov x := fun x hx => hS x (by
      rw [hst2]
      rcases List.mem_cons.mp hx with rfl | h
      · exact List.mem_append_right _ List.mem_cons_self
      · exact List.mem_append_left _ (List.mem_reverse.mpr h))
    have hSr : ∀ x ∈ st.drop b, mv_ov x := fun x hx => hS x (List.mem_of_mem_drop hx)
    unfold mv_fit at hf
    dsimp only at hf
    cases i with
    | invokespecial idx =>
      dsimp only at hf
      rw [if_neg h9] at hf
      simp only [Bool.and_eq_true, decide_eq_true_eq] at hf
      obtain ⟨rfl, w0, w1, w2, hin, hret, hc2, hv2, hb1, hcl⟩ := hf
      have hb1 := Nat.le_of_ble_eq_true hb1
      obtain ⟨hy, hlen, hfr, hlo⟩ := mv_cl_s hcl
      subst hc2
      subst hv2
      have h6 : sh.1 + mt_mc (mv_r a) ≤ n0 + mt_mc (mv_r mi) := by omega
      have h7 : sh.2.1 + mt_ms (mv_r a) ≤ s0 + mt_ms (mv_r mi) := by omega
      refine mv_sz (fun hz => ?_)
      have hlenA : (As.map (mv_ct G)).length = b - 1 := by rw [List.length_map]; exact mv_lenA2 hst h5
      have hstk : st.map (mv_ct G) = (As.map (mv_ct G)).reverse ++ .ref (mv_ad G k) :: (st.drop b).map (mv_ct G) := by
        have h := congrArg (List.map (mv_ct G)) hst2
        rw [List.map_append, List.map_reverse, List.map_cons] at h
        exact h
      have kk : ∀ (r : Option mv_V) (sh' : mv_SH) (M' : mv_Mem) (H1 : Heap) (locs1 : List Loc), NX L (r.toList ++ st.drop b) sh' M' → (∀ z, r = some z → mv_ov z) → sh'.1 = sh.1 + mt_mc (mv_r a) → sh'.2.1 = sh.2.1 + mt_ms (mv_r a) → mv_Wd G sh' M' H1 → va_S (mg_A G) s.heap H1 locs1 → W p (mg_l G) e (mt_rm (mv_r mi)) s m args below meth cx H1 locs1 (sh.1 - n0 + mt_mc (mv_r a)) (sh.2.1 - s0 + mt_ms (mv_r a)) (MQ below (mv_Po G (mt_mc (mv_r mi)) (n0 + mt_mc (mv_r mi)) (s0 + mt_ms (mv_r mi)) post) args s (mt_mc (mv_r mi)) (mt_ms (mv_r mi)) (mg_A G)) (F0 m (pc + 3) ls ((r.map (mv_ct G)).toList ++ (st.drop b).map (mv_ct G))) := by
        intro r sh' M' H1 locs1 hΦ hov g1 g2 hW1 hS1
        have K := hn _ _ _ _ hΦ p e s m args below meth cx H1 locs1 ls C hl hL (mv_rl_o hov hSr) hW1 hS1 (by omega) (by omega)
        rw [mv_rl]
        exact W.cs (by omega) (by omega) K
      rw [hret] at hcode
      have hwl : mv_wl (mv_r a) = Cond.code (mt_y (mv_r a)) (mt_cc (mv_r a)) (mt_nL (mv_r a)) none :: mv_tbl := by unfold mv_wl; rw [hret]
      have hwok : ∀ w ∈ mv_wl (mv_r a), ∀ (a' : Array Value) (U : State), s.WarmedH U.vm → w.before a' U = true := mv_wl_ok hts (by rw [hret]; exact hcode)
      rcases mv_lk_s w0 with hw | ⟨host, hw⟩
      · have cw : CallB (mt_rm (mv_r mi)) s args (mt_own (mv_r mi)) idx (mt_y (mv_r a)) (mt_cc (mv_r a)) (mt_nL (mv_r a)) none (mv_wl (mv_r a)) (mt_rm (mv_r a)) (mt_mc (mv_r a)) (mt_ms (mv_r a)) (b - 1) ∧ (mt_y (mv_r a)).name = "<init>" ∧ (Cond.instanceMethod (mt_y (mv_r a))).before args s = true :=
          ⟨⟨rfl, rfl, hfr, hlo, hwok, by rw [hwl]; exact List.mem_cons_self, hts _ hcode, hts _ (mv_hw_mem w2), hy, hlen, hts _ hw⟩, hin, hts _ (mv_hw_mem w1)⟩
        exact mv_cont (mv_cl_k hcl) (va_runI (As := As.map (mv_ct G)) (rest := (st.drop b).map (mv_ct G)) ⟨hx, hcb, hml, hown, hts⟩ hM cw ⟨mv_blind, mv_pre C hW hV hn0.1 hz hSa⟩ rfl hlenA hl.1 hstk (lv_room (by rw [mv_stw_e]; exact h4)) hd ⟨by show _ ≤ mt_mc (mv_r mi); omega, by show _ ≤ mt_ms (mv_r mi); omega⟩) hV kk
      · have cw : va_CN (mt_rm (mv_r mi)) s args (mt_own (mv_r mi)) idx (mt_y (mv_r a)) host (mt_cc (mv_r a)) (mt_nL (mv_r a)) none (mv_wl (mv_r a)) (mt_rm (mv_r a)) (mt_mc (mv_r a)) (mt_ms (mv_r a)) (b - 1) ∧ (mt_y (mv_r a)).name = "<init>" ∧ (Cond.instanceMethod (mt_y (mv_r a))).before args s = true :=
          ⟨⟨⟨rfl, rfl, hfr, hlo, hwok, by rw [hwl]; exact List.mem_cons_self⟩, hts _ hcode, hts _ (mv_hw_mem w2), hy, hlen, hts _ hw⟩, hin, hts _ (mv_hw_mem w1)⟩
        exact mv_cont (mv_cl_k hcl) (va_runIN (As := As.map (mv_ct G)) (rest := (st.drop b).map (mv_ct G)) ⟨hx, hcb, hml, hown, hts⟩ hM cw ⟨mv_blind, mv_pre C hW hV hn0.1 hz hSa⟩ rfl hlenA hl.1 hstk (lv_room (by rw [mv_stw_e]; exact h4)) hd ⟨by show _ ≤ mt_mc (mv_r mi); omega, by show _ ≤ mt_ms (mv_r mi); omega⟩) hV kk
    | _ => cases hf
  · exact hb.elim
theorem ms_objInit {i : Instr} {ln : Nat} (hd : decode (mt_cc (mv_r mi)) pc = .ok (i, ln)) (hf : mv_fit (mv_r mi) pc ln (.invokespecial 0) a b c v ts i = true) (hn : mv_RN G mi n0 s0 (pc + ln) post NX) (h9 : c = 1)
    (hb : mv_pr st fun _ r => if mv_stw r ≤ 8 then NX L r sh M else False) : mv_Run G mi n0 s0 pc L st sh M post := by
  obtain ⟨k, r, rfl, hb1⟩ := mv_pr_s hb
  obtain ⟨h4, hb2⟩ := mv_if_s hb1
  intro p e s m args below meth cx H locs ls C hl hL hS hW hV hn0 hs0
  obtain ⟨hx, hcb, hml, hown, hts, hrt, hlk, hnm, hsz, hX, hbo, hK⟩ := id C
  have hS2 := List.forall_mem_cons.mp hS
  unfold mv_fit at hf
  dsimp only at hf
  cases i with
  | invokespecial idx =>
    dsimp only at hf
    rw [if_pos h9] at hf
    simp only [Bool.and_eq_true, decide_eq_true_eq] at hf
    obtain ⟨rfl, w0, w1, w2, hfr, hlo⟩ := hf
    have hfr := Nat.le_of_ble_eq_true hfr
    have hlo := Nat.le_of_ble_eq_true hlo
    have K := hn _ _ _ _ hb2 p e s m args below meth cx H locs ls C hl hL hS2.2 hW hV hn0 hs0
    refine W.objInit (rest := r.map (mv_ct G)) hx hcb hown (hts _ (mv_hw_mem w0)) (hts _ (mv_hw_mem w1)) (hts _ (mv_hw_mem w2)) rfl (by rw [hml]; exact hl.1) rfl hd hfr ?_ K
    rw [mv_stw_e]
    show 2 * 0 + mv_stw r + 12 ≤ mt_lo (mv_r mi)
    omega
  | _ => cases hf
theorem ms_ireturn {i : Instr} {ln : Nat} (hd : decode (mt_cc (mv_r mi)) pc = .ok (i, ln)) (hf : mv_fit (mv_r mi) pc ln .ireturn a b c v ts i = true)
    (hb : match st with
      | [.inl x] => if 150 ≤ mt_mc (mv_r mi) ∨ (sh.1 = n0 + mt_mc (mv_r mi) ∧ sh.2.1 = s0 + mt_ms (mv_r mi)) then (if a = 1 then (x = 0 ∨ x = 1) ∧ post (some (.inl x)) sh M else post (some (.inl x)) sh M) else False
      | _ => False) : mv_Run G mi n0 s0 pc L st sh M post := by
  split at hb
  · rename_i x
    obtain ⟨h12, hb⟩ := mv_if_s hb
    intro p e s m args below meth cx H locs ls C hl hL hS hW hV hn0 hs0
    obtain ⟨hx, hcb, hml, hown, hts, hrt, hlk, hnm, hsz, hX, hbo, hK⟩ := id C
    have h : (decide (ln = 1) && (decide (i = .ireturn) && (if a = 1 then decide (mt_ret (mv_r mi) = some .boolean) else decide (mt_ret (mv_r mi) = some .int)))) = true := hf
    rw [Bool.and_eq_true, Bool.and_eq_true, decide_eq_true_eq, decide_eq_true_eq] at h
    obtain ⟨rfl, rfl, h⟩ := h
    refine W.widen (show sh.1 - n0 ≤ mt_mc (mv_r mi) by omega) (show sh.2.1 - s0 ≤ mt_ms (mv_r mi) by omega) ?_
    by_cases h9 : a = 1
    · rw [if_pos h9] at hb h
      have hret := hrt.trans (of_decide_eq_true h)
      exact W.zret (v := Int32.ofInt x) hx hcb hret (by rcases hb.1 with rfl | rfl <;> decide) (fun t ht _ => ⟨⟨some (.inl x), sh, M, rfl, fun z hz => by cases hz; exact hS _ List.mem_cons_self, hb.2, h12, by rw [ht]; exact hW⟩, hV.F ht⟩) hV.2.2 hd hlk
    · rw [if_neg h9] at hb h
      have hret := hrt.trans (of_decide_eq_true h)
      exact W.iret (v := Int32.ofInt x) hx hcb hret (fun t ht _ => ⟨⟨some (.inl x), sh, M, rfl, fun z hz => by cases hz; exact hS _ List.mem_cons_self, hb, h12, by rw [ht]; exact hW⟩, hV.F ht⟩) hV.2.2 hd hlk
  · exact hb.elim
theorem ms_lreturn {i : Instr} {ln : Nat} (hd : decode (mt_cc (mv_r mi)) pc = .ok (i, ln)) (hf : mv_fit (mv_r mi) pc ln .lreturn a b c v ts i = true)
    (hb : match st with
      | [.inr (.inl x)] => if sh.1 = n0 + mt_mc (mv_r mi) ∧ sh.2.1 = s0 + mt_ms (mv_r mi) then post (some (.inr (.inl x))) sh M else False
      | _ => False) : mv_Run G mi n0 s0 pc L st sh M post := by
  split at hb
  · rename_i x
    obtain ⟨⟨h1, h2⟩, hb⟩ := mv_if_s hb
    intro p e s m args below meth cx H locs ls C hl hL hS hW hV hn0 hs0
    obtain ⟨hx, hcb, hml, hown, hts, hrt, hlk, hnm, hsz, hX, hbo, hK⟩ := id C
    have h : (decide (ln = 1) && (decide (i = .lreturn) && decide (mt_ret (mv_r mi) = some .long))) = true := hf
    simp only [Bool.and_eq_true, decide_eq_true_eq] at h
    obtain ⟨rfl, rfl, h⟩ := h
    rw [show sh.1 - n0 = mt_mc (mv_r mi) by omega, show sh.2.1 - s0 = mt_ms (mv_r mi) by omega]
    exact W.lret (v := Int64.ofInt x) hx hcb (hrt.trans h) (fun t ht _ => ⟨⟨some (.inr (.inl x)), sh, M, rfl, fun z hz => by cases hz; exact hS _ List.mem_cons_self, hb, Or.inr ⟨h1, h2⟩, by rw [ht]; exact hW⟩, hV.F ht⟩) hV.2.2 hd hlk
  · exact hb.elim
theorem ms_return {i : Instr} {ln : Nat} (hd : decode (mt_cc (mv_r mi)) pc = .ok (i, ln)) (hf : mv_fit (mv_r mi) pc ln .return_ a b c v ts i = true)
    (hb : match st with
      | [] => if sh.1 = n0 + mt_mc (mv_r mi) ∧ sh.2.1 = s0 + mt_ms (mv_r mi) then post none sh M else False
      | _ => False) : mv_Run G mi n0 s0 pc L st sh M post := by
  split at hb
  · obtain ⟨⟨h1, h2⟩, hb⟩ := mv_if_s hb
    intro p e s m args below meth cx H locs ls C hl hL hS hW hV hn0 hs0
    obtain ⟨hx, hcb, hml, hown, hts, hrt, hlk, hnm, hsz, hX, hbo, hK⟩ := id C
    have h : (decide (ln = 1) && (decide (i = .return_) && decide (mt_ret (mv_r mi) = none))) = true := hf
    simp only [Bool.and_eq_true, decide_eq_true_eq] at h
    obtain ⟨rfl, rfl, h⟩ := h
    rw [show sh.1 - n0 = mt_mc (mv_r mi) by omega, show sh.2.1 - s0 = mt_ms (mv_r mi) by omega]
    exact W.vret hx hcb (hrt.trans h) (fun t ht _ => ⟨⟨none, sh, M, rfl, fun z hz => (by cases hz), hb, Or.inr ⟨h1, h2⟩, by rw [ht]; exact hW⟩, hV.F ht⟩) hV.2.2 hd hlk
  · exact hb.elim
theorem mv_sw_s {jump : Nat → Prop} {x : Int} {d : Nat} : ∀ {ts : List Nat} {lo : Int}, mv_sw jump x d lo ts → (∃ (j t : Nat), ts[j]? = some t ∧ x = lo + (j : Int) ∧ jump t) ∨ ((x < lo ∨ lo + (ts.length : Int) ≤ x) ∧ jump d)
  | [], lo, h => Or.inr ⟨by rw [List.length_nil]; omega, h⟩
  | t :: ts, lo, h => by
    unfold mv_sw at h
    split at h
    · exact Or.inl ⟨0, t, rfl, by omega, h⟩
    · rename_i hx
      rcases mv_sw_s h with ⟨j, t', h1, h2, h3⟩ | ⟨h1, h2⟩
      · exact Or.inl ⟨j + 1, t', by rw [List.getElem?_cons_succ]; exact h1, by omega, h3⟩
      · exact Or.inr ⟨by rw [List.length_cons]; omega, h2⟩
theorem ms_switch {i : Instr} {ln : Nat} (hd : decode (mt_cc (mv_r mi)) pc = .ok (i, ln)) (hf : mv_fit (mv_r mi) pc ln (.tableswitch 0 0 0 #[]) a b c v ts i = true) (hj : ∀ t, mv_RN G mi n0 s0 t post (JP t))
    (hb : mv_pi st fun x r => mv_sw (fun t => JP t L r sh M) x a v ts) : mv_Run G mi n0 s0 pc L st sh M post := by
  obtain ⟨x, r, rfl, hb1⟩ := mv_pi_s hb
  intro p e s m args below meth cx H locs ls C hl hL hS hW hV hn0 hs0
  obtain ⟨hx, hcb, hml, hown, hts, hrt, hlk, hnm, hsz, hX, hbo, hK⟩ := id C
  have hS2 := List.forall_mem_cons.mp hS
  have hxr : mv_R32 x := hS2.1
  unfold mv_fit at hf
  dsimp only at hf
  rw [Bool.and_eq_true] at hf
  obtain ⟨-, hf⟩ := hf
  cases i with
  | tableswitch d lo hi offs =>
    simp only [Bool.and_eq_true, decide_eq_true_eq] at hf
    obtain ⟨h1, rfl, h2, h3⟩ := hf
    rcases mv_sw_s hb1 with ⟨j, t, g1, g2, g3⟩ | ⟨g1, g2⟩
    · have hjl : j < ts.length := (List.getElem?_eq_some_iff.mp g1).1
      have ho : offs[((Int32.ofInt x).toInt - lo).toNat]? = some ((t : Int) - (pc : Int)) := by
        rw [mv_i32 hxr, ← Array.getElem?_toList, h3, List.getElem?_map, show (x - lo).toNat = j by omega, g1]
        rfl
      exact lv_tableIn hx hcb hd (by rw [mv_i32 hxr]; omega) (by rw [mv_i32 hxr]; omega) ho (by omega) (hj t _ _ _ _ g3 p e s m args below meth cx H locs ls C hl hL hS2.2 hW hV hn0 hs0)
    · exact lv_tableOut hx hcb hd (by rw [mv_i32 hxr]; omega) h1 (hj a _ _ _ _ g2 p e s m args below meth cx H locs ls C hl hL hS2.2 hW hV hn0 hs0)
  | _ => cases hf
end MR
