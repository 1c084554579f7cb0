/-! ONE INSTRUCTION OF THE SMALL MACHINE: fields, arrays, new cells, switches, ends -/
section MC
variable {G : mv_G} {mi n0 s0 : Nat} {post : Option mv_V → mv_SH → mv_Mem → Prop} {pc a b c : Nat} {v : Int} {ts : List Nat} {L : mv_L} {st : List mv_V} {sh : mv_SH} {M : mv_Mem}
variable {NX : mv_L → List mv_V → mv_SH → mv_Mem → Prop} {JP : Nat → mv_L → List mv_V → mv_SH → mv_Mem → Prop}
theorem mv_fl_s {r : mv_T} {idx : Nat} (h : mv_fl r idx a b c ts = true) : ∃ (C : String) (T : u_T) (N : Nat), vwCl[a]? = some (C, T, N) ∧ b < N ∧ Jvm.Cond.fieldLink (mt_own r) idx (T b).1 (T b).2.1 (T b).2.2.1 ∈ mv_tbl ∧ c = mv_kd a b := by
  unfold mv_fl at h
  split at h
  · rename_i C T N hC
    simp only [Bool.and_eq_true, decide_eq_true_eq] at h
    exact ⟨C, T, N, hC, Nat.le_of_ble_eq_true h.1, mv_hw_mem h.2.1, h.2.2⟩
  · cases h
theorem mv_ce_o {k : Nat} (h : sh.2.2.1 k = a) (ha : a < 100) : mv_ce G sh M k = .inr (a, (List.range (mv_nf a)).map (mv_fv G sh M a k)) := by
  unfold mv_ce
  rw [h, if_neg (by omega), if_neg (by omega), if_neg (by omega)]
theorem mv_ce_i {k : Nat} (h : sh.2.2.1 k = 100) : mv_ce G sh M k = .inl (mg_I G, sh.2.2.2.1 k, .inl (fun i => Int32.ofInt (M k i))) := by
  unfold mv_ce
  rw [if_pos h]
theorem mv_ce_j {k : Nat} (h : sh.2.2.1 k = 101) : mv_ce G sh M k = .inl (mg_J G, sh.2.2.2.1 k, .inr (.inl (fun i => Int64.ofInt (M k i)))) := by
  unfold mv_ce
  rw [if_neg (by omega), if_pos h]
theorem mv_ce_z {k : Nat} (h : sh.2.2.1 k = 102) : mv_ce G sh M k = .inl (mg_Z G, sh.2.2.2.1 k, .inl (fun i => Int32.ofInt (M k i))) := by
  unfold mv_ce
  rw [if_neg (by omega), if_neg (by omega), if_pos h]
theorem mv_set_map {N b : Nat} {g g' : Nat → Value} {v : Value} (h : g' b = v) (ho : ∀ j, j ≠ b → g' j = g j) : ((List.range N).map g).set b v = (List.range N).map g' := by
  apply List.ext_getElem?
  intro j
  rw [List.getElem?_set, List.length_map, List.length_range, List.getElem?_map, List.getElem?_map]
  by_cases hj : b = j
  · subst hj
    rw [if_pos rfl]
    by_cases hb : b < N
    · rw [if_pos hb, List.getElem?_range hb]
      show some v = some (g' b)
      rw [h]
    · rw [if_neg hb, List.getElem?_eq_none (by simp; omega)]
      rfl
  · rw [if_neg hj]
    by_cases hb : j < N
    · rw [List.getElem?_range hb]
      show some (g j) = some (g' j)
      rw [ho j (fun q => hj q.symm)]
    · rw [List.getElem?_eq_none (by simp; omega)]
      rfl
theorem ms_getfield {i : Instr} {ln : Nat} (hd : decode (mt_cc (mv_r mi)) pc = .ok (i, ln)) (hf : mv_fit (mv_r mi) pc ln (.getfield 0) a b c v ts i = true) (hn : mv_RN G mi n0 s0 (pc + ln) post NX)
    (hb : mv_pr st fun k r => if 1 ≤ k ∧ k ≤ sh.1 ∧ sh.2.2.1 k = a then
      (if c = 2 then (if 1 ≤ sh.2.2.2.2 k b then NX L (.inr (.inr (sh.2.2.2.2 k b)) :: r) sh M else False) else NX L (.inl (M k b) :: r) sh M) else False) : mv_Run G mi n0 s0 pc L st sh M post := by
  obtain ⟨k, r, rfl, hb1⟩ := mv_pr_s hb
  obtain ⟨⟨h1, h2, h3⟩, hb2⟩ := mv_if_s hb1
  intro p e s m args below meth cx H locs ls C hl hL hS hW hV hn0 hs0
  obtain ⟨hx, hcb, hml, hown, hts, hrt, hlk, hnm, hsz, hX, hbo, hK⟩ := id C
  have hS2 := List.forall_mem_cons.mp hS
  unfold mv_fit at hf
  dsimp only at hf
  cases i with
  | getfield idx =>
    simp only [Bool.and_eq_true, decide_eq_true_eq] at hf
    obtain ⟨rfl, hf⟩ := hf
    obtain ⟨C', T, N, hC, hbN, hlk2, hc⟩ := mv_fl_s hf
    obtain ⟨hin, hty, hnm2, hN, h100⟩ := mv_cls hC
    have he := mv_ws_get (G := G) (M := M) h1 h2
    rw [mv_ce_o h3 h100, hN] at he
    have hv0 : ((List.range N).map (mv_fv G sh M a k))[b]? = some (mv_fv G sh M a k b) := by rw [List.getElem?_map, List.getElem?_range hbN]; rfl
    by_cases h9 : c = 2
    · rw [if_pos h9] at hb2
      obtain ⟨hR, hb3⟩ := mv_if_s hb2
      have E : mv_fv G sh M a k b = mv_ct G (.inr (.inr (sh.2.2.2.2 k b))) := by
        unfold mv_fv
        rw [if_pos (hc.symm.trans h9), if_neg (by omega)]
        rfl
      rw [E] at hv0
      exact va_get hx hcb hts hin hown hK hW.1 (k - 1) he hC b hbN (hts _ hlk2) (fun _ h => h) hv0 hd (hn _ _ _ _ hb3 p e s m args below meth cx H locs ls C hl hL (List.forall_mem_cons.mpr ⟨trivial, hS2.2⟩) hW hV hn0 hs0)
    · rw [if_neg h9] at hb2
      have E : mv_fv G sh M a k b = mv_ct G (.inl (M k b)) := by
        unfold mv_fv
        rw [if_neg (fun q => h9 (hc.trans q))]
        rfl
      rw [E] at hv0
      exact va_get hx hcb hts hin hown hK hW.1 (k - 1) he hC b hbN (hts _ hlk2) (fun _ h => h) hv0 hd (hn _ _ _ _ hb2 p e s m args below meth cx H locs ls C hl hL (List.forall_mem_cons.mpr ⟨(hW.2.2.2.1 k b).2 (by omega), hS2.2⟩) hW hV hn0 hs0)
  | _ => cases hf
/-- a field is written: a final one in its class's constructor, another anywhere -/
theorem mv_put {p : Program} {l : Launch} {e : Env} {R : Room} {s : State} {m : MethodId} {args : Array Value} {below : List Frame} {meth : Method} {cx : Code} {H : Heap} {locs : List Loc} {cells slots : Nat} {Q : State → Prop} {ls : Array Slot} {rest : List Value}
    (C : mv_Cx G mi n0 p s m args meth cx) {idx N k : Nat} {C' : String} {T : u_T} {sh' : mv_SH} {M' : mv_Mem} {x : Value} (hC : vwCl[a]? = some (C', T, N)) (hbN : b < N) (hlk2 : Jvm.Cond.fieldLink (mt_own (mv_r mi)) idx (T b).1 (T b).2.1 (T b).2.2.1 ∈ mv_tbl)
    (hfin : (T b).2.2.2 = false ∨ ((mt_y (mv_r mi)).name = "<init>" ∧ (T b).1 = mt_own (mv_r mi))) (h1 : 1 ≤ k) (h2 : k ≤ sh.1) (h3 : sh.2.2.1 k = a) (hn : narrow (mv_ty a b) x = x) (hfit : fits (mv_ty a b) x = true) (hW : mv_Wd G sh M H) (hV : va_S (mg_A G) s.heap H locs)
    (hs : sh'.1 = sh.1) (ht : sh'.2.2.1 = sh.2.2.1) (hlen : sh'.2.2.2.1 = sh.2.2.2.1) (he1 : mv_fv G sh' M' a k b = x) (he2 : ∀ f, f ≠ b → mv_fv G sh' M' a k f = mv_fv G sh M a k f) (ho : ∀ j, j ≠ k → (∀ f, sh'.2.2.2.2 j f = sh.2.2.2.2 j f) ∧ ∀ f, M' j f = M j f) (hNm : mv_Nm G sh' M') (hd : decode (mt_cc (mv_r mi)) pc = .ok (.putfield idx, 3))
    (kk : ∀ H1 locs1, mv_Wd G sh' M' H1 → va_S (mg_A G) s.heap H1 locs1 → W p l e R s m args below meth cx H1 locs1 cells slots Q (F0 m (pc + 3) ls rest)) : W p l e R s m args below meth cx H locs cells slots Q (F0 m pc ls (x :: .ref (mv_ad G k) :: rest)) := by
  obtain ⟨hx, hcb, hml, hown, hts, hrt, hlk, hnm, hsz, hX, hbo, hK⟩ := C
  obtain ⟨hin, hty, hnm2, hN, h100⟩ := mv_cls hC
  have he := mv_ws_get (G := G) (M := M) h1 h2
  rw [mv_ce_o h3 h100, hN] at he
  have hset : (mv_ws G sh M).set (k - 1) (mv_ad G k, .inr (a, ((List.range N).map (mv_fv G sh M a k)).set b x)) = mv_ws G sh' M' := by
    refine mv_ws_set h1 h2 hs ?_ (fun j hj => ?_)
    · rw [mv_ce_o (by rw [ht]; exact h3) h100, hN, mv_set_map he1 he2]
    · exact mv_ce_c (by rw [ht]) (by rw [hlen]) (ho j hj).1 (ho j hj).2
  have hl2 : b < ((List.range N).map (mv_fv G sh M a k)).length := by rw [List.length_map, List.length_range]; exact hbN
  have kk' : ∀ (H1 : Heap) (locs1 : List Loc), va_P (mg_D G) vwCl ((mv_ws G sh M).set (k - 1) (mv_ad G k, .inr (a, ((List.range N).map (mv_fv G sh M a k)).set b x))) H1 → va_D (mg_A G) ((mv_ws G sh M).set (k - 1) (mv_ad G k, .inr (a, ((List.range N).map (mv_fv G sh M a k)).set b x))) → va_S (mg_A G) s.heap H1 locs1 → W p l e R s m args below meth cx H1 locs1 cells slots Q (F0 m (pc + 3) ls rest) := by
    rw [hset]
    exact fun H1 locs1 q1 q2 q3 => kk H1 locs1 ⟨q1, q2, hNm⟩ q3
  rcases hfin with hfin | ⟨hfin, hdecl⟩
  · exact va_put hx hcb hts hin (mv_ty a) hty hnm2 hown hK hW.1 hW.2.1 hV (k - 1) he hC b hbN (hts _ hlk2) (fun _ h => h) hfin (hty b hbN) hn hfit hl2 hd kk'
  · cases hfn : (T b).2.2.2 with
    | false => exact va_put hx hcb hts hin (mv_ty a) hty hnm2 hown hK hW.1 hW.2.1 hV (k - 1) he hC b hbN (hts _ hlk2) (fun _ h => h) hfn (hty b hbN) hn hfit hl2 hd kk'
    | true => exact va_putF hx hcb hts hin (mv_ty a) hty hnm2 hown hK hW.1 hW.2.1 hV (k - 1) he hC b hbN (hts _ hlk2) (fun _ h => h) hfn (hnm.trans hfin) hdecl (hty b hbN) hn hfit hl2 hd kk'
theorem mv_kd2 {r : Nat} (h : mv_kd a b = 2) : narrow (mv_ty a b) (.ref r) = .ref r ∧ fits (mv_ty a b) (.ref r) = true := by
  unfold mv_kd at h
  cases ht : mv_ty a b with
  | object n => exact ⟨rfl, rfl⟩
  | array t => exact ⟨rfl, rfl⟩
  | _ => rw [ht] at h; simp at h
theorem mv_kd0 {x : Int32} (h : mv_kd a b = 0) : narrow (mv_ty a b) (.int x) = .int x ∧ fits (mv_ty a b) (.int x) = true := by
  unfold mv_kd at h
  cases ht : mv_ty a b with
  | int => exact ⟨rfl, rfl⟩
  | _ => rw [ht] at h; simp at h
theorem mv_kd1 {x : Int} (h : mv_kd a b = 1) (hx : x = 0 ∨ x = 1) : narrow (mv_ty a b) (.int (Int32.ofInt x)) = .int (Int32.ofInt x) ∧ fits (mv_ty a b) (.int (Int32.ofInt x)) = true := by
  unfold mv_kd at h
  cases ht : mv_ty a b with
  | boolean => rcases hx with rfl | rfl <;> exact ⟨by decide, by decide⟩
  | _ => rw [ht] at h; simp at h
/-- of every field's kind: an int, a boolean, a reference -/
theorem mv_kds : (List.range 12).all (fun ci => (List.range (mv_nf ci)).all (fun k => Nat.ble (mv_kd ci k) 2)) = true := by decide +kernel
theorem mv_kd_le (ha : a < 12) (hb : b < mv_nf a) : mv_kd a b ≤ 2 := by
  have h := List.all_eq_true.mp mv_kds a (List.mem_range.mpr ha)
  exact Nat.le_of_ble_eq_true (List.all_eq_true.mp h b (List.mem_range.mpr hb))
theorem mv_rf_s {k j : Nat} : (mv_rf sh k b j).2.2.2.2 k b = j := by
  unfold mv_rf
  simp
theorem mv_rf_n {k j q f : Nat} (h : ¬ (q = k ∧ f = b)) : (mv_rf sh k b j).2.2.2.2 q f = sh.2.2.2.2 q f := by
  unfold mv_rf
  exact if_neg h
theorem mv_up_s {k j : Nat} {x : Int} : mv_up M k j x k j = x := by
  unfold mv_up
  exact if_pos ⟨rfl, rfl⟩
theorem mv_up_n {k j q f : Nat} {x : Int} (h : ¬ (q = k ∧ f = j)) : mv_up M k j x q f = M q f := by
  unfold mv_up
  exact if_neg h
theorem ms_putfield {i : Instr} {ln : Nat} (hd : decode (mt_cc (mv_r mi)) pc = .ok (i, ln)) (hf : mv_fit (mv_r mi) pc ln (.putfield 0) a b c v ts i = true) (hn : mv_RN G mi n0 s0 (pc + ln) post NX)
    (hb : if c = 2 then (mv_pr st fun j r => mv_pr r fun k r => if 1 ≤ k ∧ k ≤ sh.1 ∧ sh.2.2.1 k = a ∧ 1 ≤ j ∧ j ≤ sh.1 then NX L r (mv_rf sh k b j) M else False)
      else mv_pi st fun x r => mv_pr r fun k r => if 1 ≤ k ∧ k ≤ sh.1 ∧ sh.2.2.1 k = a then (if c = 1 then (x = 0 ∨ x = 1) ∧ NX L r sh (mv_up M k b x) else NX L r sh (mv_up M k b x)) else False) : mv_Run G mi n0 s0 pc L st sh M post := by
  unfold mv_fit at hf
  dsimp only at hf
  cases i with
  | putfield idx =>
    rw [Bool.and_eq_true, decide_eq_true_eq, Bool.and_eq_true] at hf
    obtain ⟨rfl, hf1, hf2⟩ := hf
    obtain ⟨C', T, N, hC, hbN, hlk2, hc⟩ := mv_fl_s hf1
    rw [hC] at hf2
    simp only [Bool.or_eq_true, Bool.not_eq_true', Bool.and_eq_true, decide_eq_true_eq] at hf2
    obtain ⟨hin, hty, hnm2, hN, h100⟩ := mv_cls hC
    by_cases h9 : c = 2
    · rw [if_pos h9] at hb
      obtain ⟨j, r, rfl, hb1⟩ := mv_pr_s hb
      obtain ⟨k, r, rfl, hb2⟩ := mv_pr_s hb1
      obtain ⟨⟨h1, h2, h3, h4, h5⟩, hb3⟩ := mv_if_s hb2
      intro p e s m args below meth cx H locs ls C hl hL hS hW hV hn0 hs0
      have hS2 := List.forall_mem_cons.mp (List.forall_mem_cons.mp hS).2
      have hk2 := mv_kd2 (r := mv_ad G j) (hc.symm.trans h9)
      refine mv_put (sh' := mv_rf sh k b j) (M' := M) C hC hbN hlk2 hf2 h1 h2 h3 hk2.1 hk2.2 hW hV rfl rfl rfl ?_ ?_ ?_ hW.2.2 hd (fun H1 locs1 q1 q2 => hn _ _ _ _ hb3 p e s m args below meth cx H1 locs1 ls C hl hL hS2.2 q1 q2 hn0 hs0)
      · unfold mv_fv
        rw [mv_rf_s, if_pos (hc.symm.trans h9), if_neg (by omega)]
        rfl
      · intro f hf
        unfold mv_fv
        rw [mv_rf_n (fun q => hf q.2)]
      · intro q hq
        exact ⟨fun f => mv_rf_n (fun z => hq z.1), fun _ => rfl⟩
    · rw [if_neg h9] at hb
      obtain ⟨x, r, rfl, hb1⟩ := mv_pi_s hb
      obtain ⟨k, r, rfl, hb2⟩ := mv_pr_s hb1
      obtain ⟨⟨h1, h2, h3⟩, hb3⟩ := mv_if_s hb2
      intro p e s m args below meth cx H locs ls C hl hL hS hW hV hn0 hs0
      have hS1 := List.forall_mem_cons.mp hS
      have hS2 := List.forall_mem_cons.mp hS1.2
      have hxr : mv_R32 x := hS1.1
      have hle := mv_kd_le (a := a) (b := b) (by have := (List.getElem?_eq_some_iff.mp hC).1; exact this) (by rw [hN]; exact hbN)
      have hkd : narrow (mv_ty a b) (.int (Int32.ofInt x)) = .int (Int32.ofInt x) ∧ fits (mv_ty a b) (.int (Int32.ofInt x)) = true := by
        by_cases h8 : c = 1
        · rw [if_pos h8] at hb3
          exact mv_kd1 (hc.symm.trans h8) hb3.1
        · exact mv_kd0 (by omega)
      have hb4 : NX L r sh (mv_up M k b x) := by
        by_cases h8 : c = 1
        · rw [if_pos h8] at hb3
          exact hb3.2
        · rw [if_neg h8] at hb3
          exact hb3
      refine mv_put (sh' := sh) (M' := mv_up M k b x) C hC hbN hlk2 hf2 h1 h2 h3 hkd.1 hkd.2 hW hV rfl rfl rfl ?_ ?_ ?_ (mv_nm_up hW.2.2 h1 ⟨mv_R6 hxr, fun _ => hxr⟩) hd (fun H1 locs1 q1 q2 => hn _ _ _ _ hb4 p e s m args below meth cx H1 locs1 ls C hl hL hS2.2 q1 q2 hn0 hs0)
      · unfold mv_fv
        rw [mv_up_s, if_neg (fun q => h9 (hc.trans q))]
        rfl
      · intro f hf
        unfold mv_fv
        rw [mv_up_n (fun q => hf q.2)]
      · intro q hq
        exact ⟨fun _ => rfl, fun f => mv_up_ne hq f⟩
  | _ => cases hf
theorem ms_iaload (hd : decode (mt_cc (mv_r mi)) pc = .ok (.iaload, 1)) (hn : mv_RN G mi n0 s0 (pc + 1) post NX)
    (hb : mv_pi st fun i r => mv_pr r fun k r => if k ≤ sh.1 ∧ sh.2.2.1 k = 100 then (0 ≤ i ∧ i < (sh.2.2.2.1 k : Int)) ∧ NX L (.inl (M k i.toNat) :: r) sh M else False) : mv_Run G mi n0 s0 pc L st sh M post := by
  obtain ⟨i, r, rfl, hb1⟩ := mv_pi_s hb
  obtain ⟨k, r, rfl, hb2⟩ := mv_pr_s hb1
  obtain ⟨⟨h2, h3⟩, hi, hb3⟩ := mv_if_s hb2
  intro p e s m args below meth cx H locs ls C hl hL hS hW hV hn0 hs0
  obtain ⟨hx, hcb, hml, hown, hts, hrt, hlk, hnm, hsz, hX, hbo, hK⟩ := id C
  have hS1 := List.forall_mem_cons.mp hS
  have hir : mv_R32 i := hS1.1
  have hS2 := List.forall_mem_cons.mp hS1.2
  have K := hn _ _ _ _ hb3 p e s m args below meth cx H locs ls C hl hL (List.forall_mem_cons.mpr ⟨(hW.2.2.2.1 k i.toNat).2 (by omega), hS2.2⟩) hW hV hn0 hs0
  by_cases h0 : k = 0
  · subst h0
    obtain ⟨⟨-, g2, g3⟩, -⟩ := hW.2.2
    rw [g2] at hi
    refine va_sld hx hcb hX hbo.1 hbo.2 hV (mv_vin hir hi) hd ?_
    rw [mv_clamp hir, ← g3]
    exact K
  · have he := mv_ws_get (G := G) (M := M) (show 1 ≤ k by omega) h2
    rw [mv_ce_i h3] at he
    refine va_iald hx hcb hK hW.1 (k - 1) 0 he rfl (mv_vin hir hi) hd ?_
    rw [mv_clamp hir]
    exact K
theorem mv_zn {x : Int} (h : x = 0 ∨ x = 1) : vp_nar .boolean (Int32.ofInt x) = Int32.ofInt x := by
  rcases h with rfl | rfl <;> decide
theorem ms_laload (hd : decode (mt_cc (mv_r mi)) pc = .ok (.laload, 1)) (hn : mv_RN G mi n0 s0 (pc + 1) post NX)
    (hb : mv_pi st fun i r => mv_pr r fun k r => if 1 ≤ k ∧ k ≤ sh.1 ∧ sh.2.2.1 k = 101 then (0 ≤ i ∧ i < (sh.2.2.2.1 k : Int)) ∧ NX L (.inr (.inl (M k i.toNat)) :: r) sh M else False) : mv_Run G mi n0 s0 pc L st sh M post := by
  obtain ⟨i, r, rfl, hb1⟩ := mv_pi_s hb
  obtain ⟨k, r, rfl, hb2⟩ := mv_pr_s hb1
  obtain ⟨⟨h1, h2, h3⟩, hi, hb3⟩ := mv_if_s hb2
  intro p e s m args below meth cx H locs ls C hl hL hS hW hV hn0 hs0
  obtain ⟨hx, hcb, hml, hown, hts, hrt, hlk, hnm, hsz, hX, hbo, hK⟩ := id C
  have hS1 := List.forall_mem_cons.mp hS
  have hir : mv_R32 i := hS1.1
  have hS2 := List.forall_mem_cons.mp hS1.2
  have K := hn _ _ _ _ hb3 p e s m args below meth cx H locs ls C hl hL (List.forall_mem_cons.mpr ⟨(hW.2.2.2.1 k i.toNat).1, hS2.2⟩) hW hV hn0 hs0
  have he := mv_ws_get (G := G) (M := M) h1 h2
  rw [mv_ce_j h3] at he
  refine va_lald hx hcb hK hW.1 (k - 1) 1 he rfl (mv_vin hir hi) hd ?_
  rw [mv_clamp hir]
  exact K
theorem ms_iastore (hd : decode (mt_cc (mv_r mi)) pc = .ok (.iastore, 1)) (hn : mv_RN G mi n0 s0 (pc + 1) post NX)
    (hb : mv_pi st fun x r => mv_pi r fun i r => mv_pr r fun k r => if 1 ≤ k ∧ k ≤ sh.1 ∧ sh.2.2.1 k = 100 then (0 ≤ i ∧ i < (sh.2.2.2.1 k : Int)) ∧ NX L r sh (mv_up M k i.toNat x) else False) : mv_Run G mi n0 s0 pc L st sh M post := by
  obtain ⟨x, r, rfl, hb1⟩ := mv_pi_s hb
  obtain ⟨i, r, rfl, hb2⟩ := mv_pi_s hb1
  obtain ⟨k, r, rfl, hb3⟩ := mv_pr_s hb2
  obtain ⟨⟨h1, h2, h3⟩, hi, hb4⟩ := mv_if_s hb3
  intro p e s m args below meth cx H locs ls C hl hL hS hW hV hn0 hs0
  obtain ⟨hx, hcb, hml, hown, hts, hrt, hlk, hnm, hsz, hX, hbo, hK⟩ := id C
  have hS0 := List.forall_mem_cons.mp hS
  have hxr : mv_R32 x := hS0.1
  have hS1 := List.forall_mem_cons.mp hS0.2
  have hir : mv_R32 i := hS1.1
  have hS2 := List.forall_mem_cons.mp hS1.2
  have he := mv_ws_get (G := G) (M := M) h1 h2
  rw [mv_ce_i h3] at he
  have hset := mv_ws_set (G := G) (M := M) (M' := mv_up M k i.toNat x) (sh' := sh) h1 h2 rfl rfl (fun j hj => mv_ce_c rfl rfl (fun _ => rfl) (fun q => mv_up_ne hj q))
  rw [mv_ce_i h3, mv_up_f Int32.ofInt] at hset
  refine va_iast hx hcb hK hW.1 hW.2.1 hV (k - 1) 0 he rfl (mv_vin hir hi) hd ?_
  rw [mv_clamp hir, hset]
  exact fun H1 locs1 q1 q2 q3 => hn _ _ _ _ hb4 p e s m args below meth cx H1 locs1 ls C hl hL hS2.2 ⟨q1, q2, mv_nm_up hW.2.2 h1 ⟨mv_R6 hxr, fun _ => hxr⟩⟩ q3 hn0 hs0
theorem ms_lastore (hd : decode (mt_cc (mv_r mi)) pc = .ok (.lastore, 1)) (hn : mv_RN G mi n0 s0 (pc + 1) post NX)
    (hb : mv_pl st fun x r => mv_pi r fun i r => mv_pr r fun k r => if 1 ≤ k ∧ k ≤ sh.1 ∧ sh.2.2.1 k = 101 then (0 ≤ i ∧ i < (sh.2.2.2.1 k : Int)) ∧ NX L r sh (mv_up M k i.toNat x) else False) : mv_Run G mi n0 s0 pc L st sh M post := by
  obtain ⟨x, r, rfl, hb1⟩ := mv_pl_s hb
  obtain ⟨i, r, rfl, hb2⟩ := mv_pi_s hb1
  obtain ⟨k, r, rfl, hb3⟩ := mv_pr_s hb2
  obtain ⟨⟨h1, h2, h3⟩, hi, hb4⟩ := mv_if_s hb3
  intro p e s m args below meth cx H locs ls C hl hL hS hW hV hn0 hs0
  obtain ⟨hx, hcb, hml, hown, hts, hrt, hlk, hnm, hsz, hX, hbo, hK⟩ := id C
  have hS0 := List.forall_mem_cons.mp hS
  have hxr : mv_R64 x := hS0.1
  have hS1 := List.forall_mem_cons.mp hS0.2
  have hir : mv_R32 i := hS1.1
  have hS2 := List.forall_mem_cons.mp hS1.2
  have he := mv_ws_get (G := G) (M := M) h1 h2
  rw [mv_ce_j h3] at he
  have hset := mv_ws_set (G := G) (M := M) (M' := mv_up M k i.toNat x) (sh' := sh) h1 h2 rfl rfl (fun j hj => mv_ce_c rfl rfl (fun _ => rfl) (fun q => mv_up_ne hj q))
  rw [mv_ce_j h3, mv_up_fl Int64.ofInt] at hset
  refine va_last hx hcb hK hW.1 hW.2.1 hV (k - 1) 1 he rfl (mv_vin hir hi) hd ?_
  rw [mv_clamp hir, hset]
  exact fun H1 locs1 q1 q2 q3 => hn _ _ _ _ hb4 p e s m args below meth cx H1 locs1 ls C hl hL hS2.2 ⟨q1, q2, mv_nm_up hW.2.2 h1 ⟨hxr, fun q => absurd h3 q⟩⟩ q3 hn0 hs0
end MC
