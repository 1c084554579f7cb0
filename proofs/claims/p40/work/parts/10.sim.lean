/-! THE SMALL MACHINE: any instruction; a stretch of code; a method -/
section MB
variable {G : mv_G} {mi n0 s0 : Nat} {post : Option mv_V → mv_SH → mv_Mem → Prop} {pc a b c : Nat} {v : Int} {ts : List Nat} {L : mv_L} {st : List mv_V} {sh : mv_SH} {M : mv_Mem}
variable {NX : mv_L → List mv_V → mv_SH → mv_Mem → Prop} {JP : Nat → mv_L → List mv_V → mv_SH → mv_Mem → Prop}
set_option maxHeartbeats 4000000 in
theorem mv_body_ok {i ni : Instr} {ln : Nat} (hd : decode (mt_cc (mv_r mi)) pc = .ok (i, ln)) (hf : mv_fit (mv_r mi) pc ln ni a b c v ts i = true) (hn : mv_RN G mi n0 s0 (pc + ln) post NX) (hj : ∀ t, mv_RN G mi n0 s0 t post (JP t))
    (hb : mv_body (mv_Wp G) NX JP post n0 s0 (mt_mc (mv_r mi)) (mt_ms (mv_r mi)) ni a b c v ts L st sh M) : mv_Run G mi n0 s0 pc L st sh M post := by
  cases ni with
  | iadd =>
    have h : (decide (ln = 1) && decide (i = Instr.iadd)) = true := hf
    simp only [Bool.and_eq_true, decide_eq_true_eq] at h
    obtain ⟨rfl, rfl⟩ := h
    exact ms_iadd hd hn hb
  | isub =>
    have h : (decide (ln = 1) && decide (i = Instr.isub)) = true := hf
    simp only [Bool.and_eq_true, decide_eq_true_eq] at h
    obtain ⟨rfl, rfl⟩ := h
    exact ms_isub hd hn hb
  | imul =>
    have h : (decide (ln = 1) && decide (i = Instr.imul)) = true := hf
    simp only [Bool.and_eq_true, decide_eq_true_eq] at h
    obtain ⟨rfl, rfl⟩ := h
    exact ms_imul hd hn hb
  | idiv =>
    have h : (decide (ln = 1) && decide (i = Instr.idiv)) = true := hf
    simp only [Bool.and_eq_true, decide_eq_true_eq] at h
    obtain ⟨rfl, rfl⟩ := h
    exact ms_idiv hd hn hb
  | irem =>
    have h : (decide (ln = 1) && decide (i = Instr.irem)) = true := hf
    simp only [Bool.and_eq_true, decide_eq_true_eq] at h
    obtain ⟨rfl, rfl⟩ := h
    exact ms_irem hd hn hb
  | ineg =>
    have h : (decide (ln = 1) && decide (i = Instr.ineg)) = true := hf
    simp only [Bool.and_eq_true, decide_eq_true_eq] at h
    obtain ⟨rfl, rfl⟩ := h
    exact ms_ineg hd hn hb
  | iand =>
    have h : (decide (ln = 1) && decide (i = Instr.iand)) = true := hf
    simp only [Bool.and_eq_true, decide_eq_true_eq] at h
    obtain ⟨rfl, rfl⟩ := h
    exact ms_iand hd hn hb
  | ixor =>
    have h : (decide (ln = 1) && decide (i = Instr.ixor)) = true := hf
    simp only [Bool.and_eq_true, decide_eq_true_eq] at h
    obtain ⟨rfl, rfl⟩ := h
    exact ms_ixor hd hn hb
  | ishl =>
    have h : (decide (ln = 1) && decide (i = Instr.ishl)) = true := hf
    simp only [Bool.and_eq_true, decide_eq_true_eq] at h
    obtain ⟨rfl, rfl⟩ := h
    exact ms_ishl hd hn hb
  | ishr =>
    have h : (decide (ln = 1) && decide (i = Instr.ishr)) = true := hf
    simp only [Bool.and_eq_true, decide_eq_true_eq] at h
    obtain ⟨rfl, rfl⟩ := h
    exact ms_ishr hd hn hb
  | ladd =>
    have h : (decide (ln = 1) && decide (i = Instr.ladd)) = true := hf
    simp only [Bool.and_eq_true, decide_eq_true_eq] at h
    obtain ⟨rfl, rfl⟩ := h
    exact ms_ladd hd hn hb
  | lsub =>
    have h : (decide (ln = 1) && decide (i = Instr.lsub)) = true := hf
    simp only [Bool.and_eq_true, decide_eq_true_eq] at h
    obtain ⟨rfl, rfl⟩ := h
    exact ms_lsub hd hn hb
  | lmul =>
    have h : (decide (ln = 1) && decide (i = Instr.lmul)) = true := hf
    simp only [Bool.and_eq_true, decide_eq_true_eq] at h
    obtain ⟨rfl, rfl⟩ := h
    exact ms_lmul hd hn hb
  | ldiv =>
    have h : (decide (ln = 1) && decide (i = Instr.ldiv)) = true := hf
    simp only [Bool.and_eq_true, decide_eq_true_eq] at h
    obtain ⟨rfl, rfl⟩ := h
    exact ms_ldiv hd hn hb
  | lrem =>
    have h : (decide (ln = 1) && decide (i = Instr.lrem)) = true := hf
    simp only [Bool.and_eq_true, decide_eq_true_eq] at h
    obtain ⟨rfl, rfl⟩ := h
    exact ms_lrem hd hn hb
  | lneg =>
    have h : (decide (ln = 1) && decide (i = Instr.lneg)) = true := hf
    simp only [Bool.and_eq_true, decide_eq_true_eq] at h
    obtain ⟨rfl, rfl⟩ := h
    exact ms_lneg hd hn hb
  | land =>
    have h : (decide (ln = 1) && decide (i = Instr.land)) = true := hf
    simp only [Bool.and_eq_true, decide_eq_true_eq] at h
    obtain ⟨rfl, rfl⟩ := h
    exact ms_land hd hn hb
  | lor =>
    have h : (decide (ln = 1) && decide (i = Instr.lor)) = true := hf
    simp only [Bool.and_eq_true, decide_eq_true_eq] at h
    obtain ⟨rfl, rfl⟩ := h
    exact ms_lor hd hn hb
  | lxor =>
    have h : (decide (ln = 1) && decide (i = Instr.lxor)) = true := hf
    simp only [Bool.and_eq_true, decide_eq_true_eq] at h
    obtain ⟨rfl, rfl⟩ := h
    exact ms_lxor hd hn hb
  | lshl =>
    have h : (decide (ln = 1) && decide (i = Instr.lshl)) = true := hf
    simp only [Bool.and_eq_true, decide_eq_true_eq] at h
    obtain ⟨rfl, rfl⟩ := h
    exact ms_lshl hd hn hb
  | lshr =>
    have h : (decide (ln = 1) && decide (i = Instr.lshr)) = true := hf
    simp only [Bool.and_eq_true, decide_eq_true_eq] at h
    obtain ⟨rfl, rfl⟩ := h
    exact ms_lshr hd hn hb
  | lushr =>
    have h : (decide (ln = 1) && decide (i = Instr.lushr)) = true := hf
    simp only [Bool.and_eq_true, decide_eq_true_eq] at h
    obtain ⟨rfl, rfl⟩ := h
    exact ms_lushr hd hn hb
  | i2l =>
    have h : (decide (ln = 1) && decide (i = Instr.i2l)) = true := hf
    simp only [Bool.and_eq_true, decide_eq_true_eq] at h
    obtain ⟨rfl, rfl⟩ := h
    exact ms_i2l hd hn hb
  | l2i =>
    have h : (decide (ln = 1) && decide (i = Instr.l2i)) = true := hf
    simp only [Bool.and_eq_true, decide_eq_true_eq] at h
    obtain ⟨rfl, rfl⟩ := h
    exact ms_l2i hd hn hb
  | lcmp =>
    have h : (decide (ln = 1) && decide (i = Instr.lcmp)) = true := hf
    simp only [Bool.and_eq_true, decide_eq_true_eq] at h
    obtain ⟨rfl, rfl⟩ := h
    exact ms_lcmp hd hn hb
  | dup =>
    have h : (decide (ln = 1) && decide (i = Instr.dup)) = true := hf
    simp only [Bool.and_eq_true, decide_eq_true_eq] at h
    obtain ⟨rfl, rfl⟩ := h
    exact ms_dup hd hn hb
  | dup2 =>
    have h : (decide (ln = 1) && decide (i = Instr.dup2)) = true := hf
    simp only [Bool.and_eq_true, decide_eq_true_eq] at h
    obtain ⟨rfl, rfl⟩ := h
    exact ms_dup2 hd hn hb
  | pop =>
    have h : (decide (ln = 1) && decide (i = Instr.pop)) = true := hf
    simp only [Bool.and_eq_true, decide_eq_true_eq] at h
    obtain ⟨rfl, rfl⟩ := h
    exact ms_pop hd hn hb
  | iaload =>
    have h : (decide (ln = 1) && decide (i = Instr.iaload)) = true := hf
    simp only [Bool.and_eq_true, decide_eq_true_eq] at h
    obtain ⟨rfl, rfl⟩ := h
    exact ms_iaload hd hn hb
  | laload =>
    have h : (decide (ln = 1) && decide (i = Instr.laload)) = true := hf
    simp only [Bool.and_eq_true, decide_eq_true_eq] at h
    obtain ⟨rfl, rfl⟩ := h
    exact ms_laload hd hn hb
  | iastore =>
    have h : (decide (ln = 1) && decide (i = Instr.iastore)) = true := hf
    simp only [Bool.and_eq_true, decide_eq_true_eq] at h
    obtain ⟨rfl, rfl⟩ := h
    exact ms_iastore hd hn hb
  | lastore =>
    have h : (decide (ln = 1) && decide (i = Instr.lastore)) = true := hf
    simp only [Bool.and_eq_true, decide_eq_true_eq] at h
    obtain ⟨rfl, rfl⟩ := h
    exact ms_lastore hd hn hb
  | arraylength =>
    have h : (decide (ln = 1) && decide (i = Instr.arraylength)) = true := hf
    simp only [Bool.and_eq_true, decide_eq_true_eq] at h
    obtain ⟨rfl, rfl⟩ := h
    exact ms_arraylength hd hn hb
  | iconst n => exact ms_iconst (a := a) (b := b) (c := c) (v := v) (ts := ts) hd hf hn hb
  | lconst n => exact ms_lconst (a := a) (b := b) (c := c) (v := v) (ts := ts) hd hf hn hb
  | iload n => exact ms_iload (a := a) (b := b) (c := c) (v := v) (ts := ts) hd hf hn hb
  | lload n => exact ms_lload (a := a) (b := b) (c := c) (v := v) (ts := ts) hd hf hn hb
  | aload n => exact ms_aload (a := a) (b := b) (c := c) (v := v) (ts := ts) hd hf hn hb
  | istore n => exact ms_istore (a := a) (b := b) (c := c) (v := v) (ts := ts) hd hf hn hb
  | lstore n => exact ms_lstore (a := a) (b := b) (c := c) (v := v) (ts := ts) hd hf hn hb
  | astore n => exact ms_astore (a := a) (b := b) (c := c) (v := v) (ts := ts) hd hf hn hb
  | iinc n k => exact ms_iinc (a := a) (b := b) (c := c) (v := v) (ts := ts) hd hf hn hb
  | goto n => exact ms_goto (a := a) (b := b) (c := c) (v := v) (ts := ts) hd hf (hj a) hb
  | ifCond k n => exact ms_if (JP := JP) (a := a) (b := b) (c := c) (v := v) (ts := ts) hd hf hn (hj a) hb
  | if_icmp k n => exact ms_icmp (JP := JP) (a := a) (b := b) (c := c) (v := v) (ts := ts) hd hf hn (hj a) hb
  | tableswitch d lo hi offs => exact ms_switch (a := a) (b := b) (c := c) (v := v) (ts := ts) hd hf hj hb
  | getfield n => exact ms_getfield (a := a) (b := b) (c := c) (v := v) (ts := ts) hd hf hn hb
  | putfield n => exact ms_putfield (a := a) (b := b) (c := c) (v := v) (ts := ts) hd hf hn hb
  | newarray ty =>
    cases ty with
    | int => exact ms_newarray_int (a := a) (b := b) (c := c) (v := v) (ts := ts) hd hf hn hb
    | long => exact ms_newarray_long (a := a) (b := b) (c := c) (v := v) (ts := ts) hd hf hn hb
    | boolean => exact ms_newarray_boolean (a := a) (b := b) (c := c) (v := v) (ts := ts) hd hf hn hb
    | _ =>
      exfalso
      unfold mv_fit at hf
      dsimp only at hf
      cases i with
      | newarray ty' =>
        simp only [Bool.and_eq_true, decide_eq_true_eq] at hf
        obtain ⟨-, -, -, h1, h2⟩ := hf
        have h3 := Nat.le_of_ble_eq_true h2
        have h4 : a = 0 := h1
        omega
      | _ => cases hf
  | new n => exact ms_new (a := a) (b := b) (c := c) (v := v) (ts := ts) hd hf hn hb
  | invokespecial n =>
    by_cases h9 : c = 1
    · have hb' : (if c = 1 then _ else _) := hb
      rw [if_pos h9] at hb'
      exact ms_objInit (a := a) (b := b) (c := c) (v := v) (ts := ts) hd hf hn h9 hb'
    · have hb' : (if c = 1 then _ else _) := hb
      rw [if_neg h9] at hb'
      exact ms_special (a := a) (b := b) (c := c) (v := v) (ts := ts) hd hf hn h9 hb'
  | invokevirtual n => exact ms_virtual (a := a) (b := b) (c := c) (v := v) (ts := ts) hd hf hn hb
  | invokestatic n =>
    by_cases h9 : c = 1
    · have hb' : (if c = 1 then _ else _) := hb
      rw [if_pos h9] at hb'
      exact ms_static (a := a) (b := b) (c := c) (v := v) (ts := ts) hd hf hn h9 hb'
    · have hb' : (if c = 1 then _ else _) := hb
      rw [if_neg h9] at hb'
      exact ms_copy (a := a) (b := b) (c := c) (v := v) (ts := ts) hd hf hn h9 hb'
  | ireturn => exact ms_ireturn (a := a) (b := b) (c := c) (v := v) (ts := ts) hd hf hb
  | lreturn => exact ms_lreturn (a := a) (b := b) (c := c) (v := v) (ts := ts) hd hf hb
  | return_ => exact ms_return (a := a) (b := b) (c := c) (v := v) (ts := ts) hd hf hb
  | _ => exact hb.elim
def mv_sx (mi : Nat) (s : List mv_E) : Prop := (∀ e ∈ s, mv_okE (mv_r mi) e = true) ∧ mv_ch s = true
theorem mv_okM_s (h : mv_okM mi = true) : mv_sx mi (mt_code (mv_r mi)) := by
  unfold mv_okM at h
  rw [Bool.and_eq_true] at h
  exact ⟨fun e he => List.all_eq_true.mp h.1 e he, h.2⟩
theorem mv_sx_tl {e : mv_E} {r : List mv_E} (h : mv_sx mi (e :: r)) : mv_sx mi r := by
  refine ⟨fun x hx => h.1 x (List.mem_cons_of_mem _ hx), ?_⟩
  have h2 := h.2
  cases r with
  | nil => rfl
  | cons e' r' =>
    unfold mv_ch at h2
    rw [Bool.and_eq_true] at h2
    exact h2.2
theorem mv_sx_ch {e e' : mv_E} {r : List mv_E} (h : mv_sx mi (e :: e' :: r)) : e.1 + e.2.1 = e'.1 := by
  have h2 := h.2
  unfold mv_ch at h2
  rw [Bool.and_eq_true, decide_eq_true_eq] at h2
  exact h2.1
theorem mv_at_s {t : Nat} : ∀ {s : List mv_E}, mv_sx mi s → mv_sx mi (mv_at t s)
  | [], h => h
  | e :: r, h => by
    unfold mv_at
    split
    · exact h
    · exact mv_at_s (mv_sx_tl h)
theorem mv_at_h {t : Nat} {e : mv_E} {r : List mv_E} : ∀ {s : List mv_E}, mv_at t s = e :: r → e.1 = t
  | [], h => by cases h
  | x :: s, h => by
    unfold mv_at at h
    split at h
    · rename_i hx
      cases h
      exact hx
    · exact mv_at_h h
theorem mv_run_pk {ks : List Nat} (h : mv_Run G mi n0 s0 pc (mv_pk ks L) st sh M post) : mv_Run G mi n0 s0 pc L st sh M post := by
  intro p e s m args below meth cx H locs ls C hl hL hS hW hV hn0 hs0
  have key : ∀ q ∈ mv_pk ks L, q ∈ L := by
    intro q hq
    obtain ⟨k, -, hk⟩ := List.mem_filterMap.mp hq
    obtain ⟨x, hx, rfl⟩ := Option.map_eq_some_iff.mp hk
    exact mv_lg_mem hx
  refine h p e s m args below meth cx H locs ls C ⟨hl.1, hl.2.1, fun q hq => ?_⟩ (fun q hq => hL q (key q hq)) hS hW hV hn0 hs0
  obtain ⟨x, hx, rfl⟩ := List.mem_map.mp hq
  exact hl.2.2 _ (List.mem_map.mpr ⟨x, key x hx, rfl⟩)
theorem mv_vc_nil {cuts : List (Nat × List Nat)} {n : Nat} {f : Bool} (h : mv_vc G mi n0 s0 cuts post n f [] L st sh M) : False := by
  cases n <;> exact h
theorem mv_vc_ok {cuts : List (Nat × List Nat)} (hok : mv_okM mi = true) : ∀ (n : Nat) (f : Bool) (e : mv_E) (r : List mv_E) (L : mv_L) (st : List mv_V) (sh : mv_SH) (M : mv_Mem), mv_sx mi (e :: r) → mv_vc G mi n0 s0 cuts post n f (e :: r) L st sh M → mv_Run G mi n0 s0 e.1 L st sh M post
  | 0, _, _, _, _, _, _, _, _, h => h.elim
  | n + 1, f, e, r, L, st, sh, M, hs, h => by
    unfold mv_vc at h
    split at h
    · exact mv_run_pk h
    · have h1 := hs.1 e List.mem_cons_self
      obtain ⟨pc, ln, ni, a, b, c, v, ts⟩ := e
      unfold mv_okE at h1
      dsimp only at h1
      split at h1
      · rename_i i k hd
        rw [Bool.and_eq_true, decide_eq_true_eq] at h1
        obtain ⟨rfl, hf⟩ := h1
        refine mv_body_ok hd hf (NX := mv_vc G mi n0 s0 cuts post n false r) (JP := fun t => mv_vc G mi n0 s0 cuts post n false (mv_at t (mt_code (mv_r mi)))) (fun L' st' sh' M' h' => ?_) (fun t L' st' sh' M' h' => ?_) h
        · cases r with
          | nil => exact (mv_vc_nil h').elim
          | cons e' r' =>
            have hc := mv_sx_ch hs
            have K := mv_vc_ok hok n false e' r' L' st' sh' M' (mv_sx_tl hs) h'
            rw [← hc] at K
            exact K
        · cases hat : mv_at t (mt_code (mv_r mi)) with
          | nil => rw [hat] at h'; exact (mv_vc_nil h').elim
          | cons e' r' =>
            rw [hat] at h'
            have hc := mv_at_h hat
            have K := mv_vc_ok hok n false e' r' L' st' sh' M' (by rw [← hat]; exact mv_at_s (mv_okM_s hok)) h'
            rw [hc] at K
            exact K
      · cases h1
/-- from a cut on: it's enough to show what mv_vc says -/
theorem mv_run (cuts : List (Nat × List Nat)) (n : Nat) (hok : mv_okM mi = true) (h : mv_vc G mi n0 s0 cuts post n true (mv_at pc (mt_code (mv_r mi))) L st sh M) : mv_Run G mi n0 s0 pc L st sh M post := by
  cases hat : mv_at pc (mt_code (mv_r mi)) with
  | nil => rw [hat] at h; exact (mv_vc_nil h).elim
  | cons e r =>
    rw [hat] at h
    have K := mv_vc_ok hok n true e r L st sh M (by rw [← hat]; exact mv_at_s (mv_okM_s hok)) h
    rw [mv_at_h hat] at K
    exact K
theorem mv_en_m {as : List mv_V} : ∀ (i : Nat), lv_args i (as.map (mv_ct G)) = (mv_en i as).map (fun q => (q.1, mv_ct G q.2)) := by
  induction as with
  | nil => intro i; rfl
  | cons x as ih =>
    intro i
    show (i, mv_ct G x) :: lv_args (if (mv_ct G x).category = 2 then i + 2 else i + 1) (as.map (mv_ct G)) = (i, mv_ct G x) :: (mv_en (i + if mv_isL x then 2 else 1) as).map _
    have e1 : (if (mv_ct G x).category = 2 then i + 2 else i + 1) = i + if mv_isL x then 2 else 1 := by obtain x | x | x := x <;> rfl
    rw [e1, ih]
theorem mv_en_o {as : List mv_V} (h : ∀ x ∈ as, mv_ov x) : ∀ (i : Nat), ∀ q ∈ mv_en i as, mv_ov q.2 := by
  induction as with
  | nil => intro i q hq; cases hq
  | cons x as ih =>
    intro i q hq
    rcases List.mem_cons.mp hq with rfl | hq
    · exact h _ List.mem_cons_self
    · exact ih (fun y hy => h y (List.mem_cons_of_mem _ hy)) _ q hq
theorem mv_sl_e {as : List mv_V} : (lg_sl (as.map (mv_ct G))).length = mv_stw as := by
  induction as with
  | nil => rfl
  | cons x as ih =>
    have e1 : mv_stw (x :: as) = (if mv_isL x then 2 else 1) + mv_stw as := rfl
    rw [e1, ← ih]
    show ((if (mv_ct G x).category = 2 then [Slot.val (mv_ct G x), Slot.second] else [Slot.val (mv_ct G x)]) ++ lg_sl (as.map (mv_ct G))).length = _
    rw [List.length_append]
    obtain x | x | x := x <;> rfl
/-- a contract by a walk, of any method that no entry runs instead -/
theorem mv_ofW {l : Launch} {y : MethodName} {ws ws' : List Jvm.Cond} {rm : Room} {Pc : Array Value → State → Prop} {Qc : Array Value → State → Outcome → State → Prop} {mc ms : Nat} {free : Addr → Prop} {cc : ByteArray} {maxL : Nat} {ret : Option FieldType}
    (hy : plainFor y = true) (hw : ws = Jvm.Cond.code y cc maxL ret :: ws')
    (body : ∀ p e s m args below meth c s₁, BodyLoose p l y (headSpec ws rm) cc maxL ret e s m args below meth c s₁ → c.maxLocals = maxL → Pc args s →
      W p l e (headSpec ws rm).room s m args below meth c s.heap [] 0 0 (MQ below Qc args s mc ms free) (entryFrame m args maxL)) : Met l y ws rm Pc Qc mc ms free := by
  refine MetFree.of_bodySF (code := cc) (maxLocals := maxL) (ret := ret) hy ?_ ?_
  · intro args s m h hn
    obtain ⟨meth, c, h1, h2, h3, h4, h5, h6, -, -⟩ := Cond.code_spec hn (atoms_spec (ws := ws) h _ (by rw [hw]; exact List.mem_cons_self))
    exact ⟨meth, c, h1, h2, h3, h4, h5, h6⟩
  · intro p e s m args below meth c s₁ B hml hP _
    have hh0 : s₁.heap = s.heap := by rw [B.state]; rfl
    obtain ⟨t, a1, o, b1, b2, b3⟩ := body p e s m args below meth c s₁ B hml hP s₁ hh0 (Stand.of_body B)
    exact ⟨t, o, a1, b1, b2, ⟨b3.1, b3.2⟩⟩
/-- a call: it's enough to show what mv_vc says from the method's entry on -/
theorem mv_wp (cuts : List (Nat × List Nat)) (n : Nat) {p : Nat} {as : List mv_V} (hok : mv_okM mi = true) (hc : mv_okC mi p = true) (hst : Nat.ble (mv_stw as) (mt_nL (mv_r mi)) = true) (h : mv_vc G mi sh.1 sh.2.1 cuts post n true (mv_at 0 (mt_code (mv_r mi))) (mv_en 0 as) [] sh M) : mv_Wp G mi as sh M post := by
  have hrun := mv_run cuts n hok h
  unfold mv_okC at hc
  simp only [Bool.and_eq_true, decide_eq_true_eq] at hc
  obtain ⟨h1, h2, h3⟩ := hc
  refine ⟨mv_hw_mem h3, mv_ofW (cc := mt_cc (mv_r mi)) (maxL := mt_nL (mv_r mi)) (ret := mt_ret (mv_r mi)) h1 rfl ?_⟩
  intro p e s m args below meth cx s₁ B hml hv
  obtain ⟨rfl, hsz, hW, hK, hX, hbo, ho⟩ := hv
  have hts : ∀ w ∈ mv_tbl, w.before (as.map (mv_ct G)).toArray s = true := fun w hw => atoms_spec (ws := mv_wl (mv_r mi)) B.pre w (List.mem_cons_of_mem _ hw)
  have hown : s.vm.findClass (mt_own (mv_r mi)) = some m.cls := by rw [h2]; exact findClass_of_methodNamed B.named
  have C : mv_Cx G mi sh.1 p s m (as.map (mv_ct G)).toArray meth cx := ⟨B.exec, B.bytes, hml, hown, hts, B.returns, B.notSynchronized, (name_of_methodNamed B.named B.method).1, hsz, hX, hbo, hK⟩
  have hl := lv_entry (as.map (mv_ct G)) (n := mt_nL (mv_r mi)) (by rw [mv_sl_e]; exact Nat.le_of_ble_eq_true hst)
  rw [mv_en_m] at hl
  rw [lg_entry_eq]
  have K := hrun p e s m (as.map (mv_ct G)).toArray below meth cx s.heap [] _ C hl (mv_en_o ho 0) (fun _ h => by cases h) hW va_S.rf ⟨Nat.le_refl _, Nat.le_add_right _ _⟩ ⟨Nat.le_refl _, Nat.le_add_right _ _⟩
  rw [Nat.sub_self, Nat.sub_self] at K
  exact K
end MB
