theorem mv_if_s {c : Prop} [Decidable c] {A : Prop} (h : if c then A else False) : c ∧ A := by
  by_cases q : c
  · rw [if_pos q] at h; exact ⟨q, h⟩
  · rw [if_neg q] at h; exact h.elim
/-! ONE INSTRUCTION OF THE SMALL MACHINE, BY THE KIT'S ROW (by program: wip/whole/stepgen.py) -/
section MS
variable {G : mv_G} {mi n0 s0 : Nat} {post : Option mv_V → mv_SH → mv_Mem → Prop} {pc a b c : Nat} {v : Int} {ts : List Nat} {L : mv_L} {st : List mv_V} {sh : mv_SH} {M : mv_Mem}
variable {NX : mv_L → List mv_V → mv_SH → mv_Mem → Prop} {JP : Nat → mv_L → List mv_V → mv_SH → mv_Mem → Prop}
abbrev mv_RN (G : mv_G) (mi n0 s0 pc : Nat) (post : Option mv_V → mv_SH → mv_Mem → Prop) (NX : mv_L → List mv_V → mv_SH → mv_Mem → Prop) : Prop := ∀ L st sh M, NX L st sh M → mv_Run G mi n0 s0 pc L st sh M post
theorem ms_iadd (hd : decode (mt_cc (mv_r mi)) pc = .ok (.iadd, 1)) (hn : mv_RN G mi n0 s0 (pc + 1) post NX)
    (hb : mv_pi st fun y r => mv_pi r fun x r => mv_R32 (x + y) ∧ NX L (.inl (x + y) :: r) sh M) : mv_Run G mi n0 s0 pc L st sh M post := by
  obtain ⟨y, r, rfl, hb1⟩ := mv_pi_s hb
  obtain ⟨x, r, rfl, hb2⟩ := mv_pi_s hb1
  obtain ⟨hR, hb2⟩ := hb2
  intro p e s m args below meth cx H locs ls C hl hL hS hW hV hn0 hs0
  obtain ⟨hx, hcb, hml, hown, hts, hrt, hlk, hnm, hsz, hX, hbo, hK⟩ := id C
  have K := hn _ _ _ _ hb2 p e s m args below meth cx H locs ls C hl hL (List.forall_mem_cons.mpr ⟨hR, (List.forall_mem_cons.mp (List.forall_mem_cons.mp hS).2).2⟩) hW hV hn0 hs0
  refine lv_iadd hx hcb hd ?_
  rw [← Int32.ofInt_add]
  exact K
theorem ms_ladd (hd : decode (mt_cc (mv_r mi)) pc = .ok (.ladd, 1)) (hn : mv_RN G mi n0 s0 (pc + 1) post NX)
    (hb : mv_pl st fun y r => mv_pl r fun x r => mv_R64 (x + y) ∧ NX L (.inr (.inl (x + y)) :: r) sh M) : mv_Run G mi n0 s0 pc L st sh M post := by
  obtain ⟨y, r, rfl, hb1⟩ := mv_pl_s hb
  obtain ⟨x, r, rfl, hb2⟩ := mv_pl_s hb1
  obtain ⟨hR, hb2⟩ := hb2
  intro p e s m args below meth cx H locs ls C hl hL hS hW hV hn0 hs0
  obtain ⟨hx, hcb, hml, hown, hts, hrt, hlk, hnm, hsz, hX, hbo, hK⟩ := id C
  have K := hn _ _ _ _ hb2 p e s m args below meth cx H locs ls C hl hL (List.forall_mem_cons.mpr ⟨hR, (List.forall_mem_cons.mp (List.forall_mem_cons.mp hS).2).2⟩) hW hV hn0 hs0
  refine lv_ladd hx hcb hd ?_
  rw [← Int64.ofInt_add]
  exact K
theorem ms_isub (hd : decode (mt_cc (mv_r mi)) pc = .ok (.isub, 1)) (hn : mv_RN G mi n0 s0 (pc + 1) post NX)
    (hb : mv_pi st fun y r => mv_pi r fun x r => mv_R32 (x - y) ∧ NX L (.inl (x - y) :: r) sh M) : mv_Run G mi n0 s0 pc L st sh M post := by
  obtain ⟨y, r, rfl, hb1⟩ := mv_pi_s hb
  obtain ⟨x, r, rfl, hb2⟩ := mv_pi_s hb1
  obtain ⟨hR, hb2⟩ := hb2
  intro p e s m args below meth cx H locs ls C hl hL hS hW hV hn0 hs0
  obtain ⟨hx, hcb, hml, hown, hts, hrt, hlk, hnm, hsz, hX, hbo, hK⟩ := id C
  have K := hn _ _ _ _ hb2 p e s m args below meth cx H locs ls C hl hL (List.forall_mem_cons.mpr ⟨hR, (List.forall_mem_cons.mp (List.forall_mem_cons.mp hS).2).2⟩) hW hV hn0 hs0
  refine lv_isub hx hcb hd ?_
  rw [← Int32.ofInt_sub]
  exact K
theorem ms_lsub (hd : decode (mt_cc (mv_r mi)) pc = .ok (.lsub, 1)) (hn : mv_RN G mi n0 s0 (pc + 1) post NX)
    (hb : mv_pl st fun y r => mv_pl r fun x r => mv_R64 (x - y) ∧ NX L (.inr (.inl (x - y)) :: r) sh M) : mv_Run G mi n0 s0 pc L st sh M post := by
  obtain ⟨y, r, rfl, hb1⟩ := mv_pl_s hb
  obtain ⟨x, r, rfl, hb2⟩ := mv_pl_s hb1
  obtain ⟨hR, hb2⟩ := hb2
  intro p e s m args below meth cx H locs ls C hl hL hS hW hV hn0 hs0
  obtain ⟨hx, hcb, hml, hown, hts, hrt, hlk, hnm, hsz, hX, hbo, hK⟩ := id C
  have K := hn _ _ _ _ hb2 p e s m args below meth cx H locs ls C hl hL (List.forall_mem_cons.mpr ⟨hR, (List.forall_mem_cons.mp (List.forall_mem_cons.mp hS).2).2⟩) hW hV hn0 hs0
  refine lv_lsub hx hcb hd ?_
  rw [← Int64.ofInt_sub]
  exact K
theorem ms_imul (hd : decode (mt_cc (mv_r mi)) pc = .ok (.imul, 1)) (hn : mv_RN G mi n0 s0 (pc + 1) post NX)
    (hb : mv_pi st fun y r => mv_pi r fun x r => mv_R32 (x * y) ∧ NX L (.inl (x * y) :: r) sh M) : mv_Run G mi n0 s0 pc L st sh M post := by
  obtain ⟨y, r, rfl, hb1⟩ := mv_pi_s hb
  obtain ⟨x, r, rfl, hb2⟩ := mv_pi_s hb1
  obtain ⟨hR, hb2⟩ := hb2
  intro p e s m args below meth cx H locs ls C hl hL hS hW hV hn0 hs0
  obtain ⟨hx, hcb, hml, hown, hts, hrt, hlk, hnm, hsz, hX, hbo, hK⟩ := id C
  have K := hn _ _ _ _ hb2 p e s m args below meth cx H locs ls C hl hL (List.forall_mem_cons.mpr ⟨hR, (List.forall_mem_cons.mp (List.forall_mem_cons.mp hS).2).2⟩) hW hV hn0 hs0
  refine lv_imul hx hcb hd ?_
  rw [← Int32.ofInt_mul]
  exact K
theorem ms_lmul (hd : decode (mt_cc (mv_r mi)) pc = .ok (.lmul, 1)) (hn : mv_RN G mi n0 s0 (pc + 1) post NX)
    (hb : mv_pl st fun y r => mv_pl r fun x r => mv_R64 (x * y) ∧ NX L (.inr (.inl (x * y)) :: r) sh M) : mv_Run G mi n0 s0 pc L st sh M post := by
  obtain ⟨y, r, rfl, hb1⟩ := mv_pl_s hb
  obtain ⟨x, r, rfl, hb2⟩ := mv_pl_s hb1
  obtain ⟨hR, hb2⟩ := hb2
  intro p e s m args below meth cx H locs ls C hl hL hS hW hV hn0 hs0
  obtain ⟨hx, hcb, hml, hown, hts, hrt, hlk, hnm, hsz, hX, hbo, hK⟩ := id C
  have K := hn _ _ _ _ hb2 p e s m args below meth cx H locs ls C hl hL (List.forall_mem_cons.mpr ⟨hR, (List.forall_mem_cons.mp (List.forall_mem_cons.mp hS).2).2⟩) hW hV hn0 hs0
  refine lv_lmul hx hcb hd ?_
  rw [← Int64.ofInt_mul]
  exact K
theorem mv_dv32 {x y : Int} (hx : mv_R32 x) (hy : mv_R32 y) : Int32.ofInt x / Int32.ofInt y = Int32.ofInt (x.tdiv y) := by
  have e1 : Int32.minValue.toInt = -2147483648 := by decide
  have e2 : Int32.maxValue.toInt = 2147483648 - 1 := by decide
  exact (Int32.ofInt_tdiv (by omega) (by omega) (by omega) (by omega)).symm
theorem mv_md32 {x y : Int} (hx : mv_R32 x) (hy : mv_R32 y) : Int32.ofInt x - Int32.ofInt x / Int32.ofInt y * Int32.ofInt y = Int32.ofInt (x.tmod y) := by
  rw [mv_dv32 hx hy, ← Int32.ofInt_mul, ← Int32.ofInt_sub, Int.tmod_def, Int.mul_comm]
theorem mv_nz32 {y : Int} (hy : mv_R32 y) (h : ¬ y = 0) : ¬ Int32.ofInt y = 0 := by
  intro q
  exact h ((mv_e32 hy mv_z32).mp q)
theorem ms_idiv (hd : decode (mt_cc (mv_r mi)) pc = .ok (.idiv, 1)) (hn : mv_RN G mi n0 s0 (pc + 1) post NX)
    (hb : mv_pi st fun y r => mv_pi r fun x r => (¬ y = 0 ∧ mv_R32 (x.tdiv y)) ∧ NX L (.inl (x.tdiv y) :: r) sh M) : mv_Run G mi n0 s0 pc L st sh M post := by
  obtain ⟨y, r, rfl, hb1⟩ := mv_pi_s hb
  obtain ⟨x, r, rfl, hb2⟩ := mv_pi_s hb1
  obtain ⟨⟨hz, hR⟩, hb2⟩ := hb2
  intro p e s m args below meth cx H locs ls C hl hL hS hW hV hn0 hs0
  obtain ⟨hx, hcb, hml, hown, hts, hrt, hlk, hnm, hsz, hX, hbo, hK⟩ := id C
  have hy := (List.forall_mem_cons.mp hS).1
  have hx2 := (List.forall_mem_cons.mp (List.forall_mem_cons.mp hS).2).1
  have K := hn _ _ _ _ hb2 p e s m args below meth cx H locs ls C hl hL (List.forall_mem_cons.mpr ⟨hR, (List.forall_mem_cons.mp (List.forall_mem_cons.mp hS).2).2⟩) hW hV hn0 hs0
  refine lv_idiv hx hcb hd (mv_nz32 hy hz) ?_
  rw [mv_dv32 hx2 hy]
  exact K
theorem ms_irem (hd : decode (mt_cc (mv_r mi)) pc = .ok (.irem, 1)) (hn : mv_RN G mi n0 s0 (pc + 1) post NX)
    (hb : mv_pi st fun y r => mv_pi r fun x r => ¬ y = 0 ∧ NX L (.inl (x.tmod y) :: r) sh M) : mv_Run G mi n0 s0 pc L st sh M post := by
  obtain ⟨y, r, rfl, hb1⟩ := mv_pi_s hb
  obtain ⟨x, r, rfl, hb2⟩ := mv_pi_s hb1
  obtain ⟨hz, hb2⟩ := hb2
  intro p e s m args below meth cx H locs ls C hl hL hS hW hV hn0 hs0
  obtain ⟨hx, hcb, hml, hown, hts, hrt, hlk, hnm, hsz, hX, hbo, hK⟩ := id C
  have hy := (List.forall_mem_cons.mp hS).1
  have hx2 := (List.forall_mem_cons.mp (List.forall_mem_cons.mp hS).2).1
  have hR : mv_R32 (x.tmod y) := by
    have h0 : mv_R32 x := hx2
    have h1 : (x.tmod y).natAbs ≤ x.natAbs := by
      rw [Int.natAbs_tmod]
      exact Nat.mod_le _ _
    have h2 : 0 ≤ x → 0 ≤ x.tmod y := fun h => Int.tmod_nonneg y h
    have h3 : x.tmod y = -((-x).tmod y) := by rw [Int.neg_tmod, Int.neg_neg]
    have h4 : x ≤ 0 → 0 ≤ (-x).tmod y := fun h => Int.tmod_nonneg y (by omega)
    constructor <;> omega
  have K := hn _ _ _ _ hb2 p e s m args below meth cx H locs ls C hl hL (List.forall_mem_cons.mpr ⟨hR, (List.forall_mem_cons.mp (List.forall_mem_cons.mp hS).2).2⟩) hW hV hn0 hs0
  refine lv_irem hx hcb hd (mv_nz32 hy hz) ?_
  rw [mv_md32 hx2 hy]
  exact K
theorem ms_ineg (hd : decode (mt_cc (mv_r mi)) pc = .ok (.ineg, 1)) (hn : mv_RN G mi n0 s0 (pc + 1) post NX)
    (hb : mv_pi st fun x r => mv_R32 (-x) ∧ NX L (.inl (-x) :: r) sh M) : mv_Run G mi n0 s0 pc L st sh M post := by
  obtain ⟨x, r, rfl, hb1⟩ := mv_pi_s hb
  obtain ⟨hR, hb1⟩ := hb1
  intro p e s m args below meth cx H locs ls C hl hL hS hW hV hn0 hs0
  obtain ⟨hx, hcb, hml, hown, hts, hrt, hlk, hnm, hsz, hX, hbo, hK⟩ := id C
  have K := hn _ _ _ _ hb1 p e s m args below meth cx H locs ls C hl hL (List.forall_mem_cons.mpr ⟨hR, (List.forall_mem_cons.mp hS).2⟩) hW hV hn0 hs0
  refine lv_ineg hx hcb hd ?_
  rw [← Int32.ofInt_neg]
  exact K
theorem mv_dv64 {x y : Int} (hx : mv_R64 x) (hy : mv_R64 y) : Int64.ofInt x / Int64.ofInt y = Int64.ofInt (x.tdiv y) := by
  have e1 : Int64.minValue.toInt = -9223372036854775808 := by decide
  have e2 : Int64.maxValue.toInt = 9223372036854775808 - 1 := by decide
  exact (Int64.ofInt_tdiv (by omega) (by omega) (by omega) (by omega)).symm
theorem mv_md64 {x y : Int} (hx : mv_R64 x) (hy : mv_R64 y) : Int64.ofInt x - Int64.ofInt x / Int64.ofInt y * Int64.ofInt y = Int64.ofInt (x.tmod y) := by
  rw [mv_dv64 hx hy, ← Int64.ofInt_mul, ← Int64.ofInt_sub, Int.tmod_def, Int.mul_comm]
theorem mv_nz64 {y : Int} (hy : mv_R64 y) (h : ¬ y = 0) : ¬ Int64.ofInt y = 0 := by
  intro q
  exact h ((mv_e64 hy mv_z64).mp q)
theorem ms_ldiv (hd : decode (mt_cc (mv_r mi)) pc = .ok (.ldiv, 1)) (hn : mv_RN G mi n0 s0 (pc + 1) post NX)
    (hb : mv_pl st fun y r => mv_pl r fun x r => (¬ y = 0 ∧ mv_R64 (x.tdiv y)) ∧ NX L (.inr (.inl (x.tdiv y)) :: r) sh M) : mv_Run G mi n0 s0 pc L st sh M post := by
  obtain ⟨y, r, rfl, hb1⟩ := mv_pl_s hb
  obtain ⟨x, r, rfl, hb2⟩ := mv_pl_s hb1
  obtain ⟨⟨hz, hR⟩, hb2⟩ := hb2
  intro p e s m args below meth cx H locs ls C hl hL hS hW hV hn0 hs0
  obtain ⟨hx, hcb, hml, hown, hts, hrt, hlk, hnm, hsz, hX, hbo, hK⟩ := id C
  have hy := (List.forall_mem_cons.mp hS).1
  have hx2 := (List.forall_mem_cons.mp (List.forall_mem_cons.mp hS).2).1
  have K := hn _ _ _ _ hb2 p e s m args below meth cx H locs ls C hl hL (List.forall_mem_cons.mpr ⟨hR, (List.forall_mem_cons.mp (List.forall_mem_cons.mp hS).2).2⟩) hW hV hn0 hs0
  refine lv_ldiv hx hcb hd (mv_nz64 hy hz) ?_
  rw [mv_dv64 hx2 hy]
  exact K
theorem ms_lrem (hd : decode (mt_cc (mv_r mi)) pc = .ok (.lrem, 1)) (hn : mv_RN G mi n0 s0 (pc + 1) post NX)
    (hb : mv_pl st fun y r => mv_pl r fun x r => ¬ y = 0 ∧ NX L (.inr (.inl (x.tmod y)) :: r) sh M) : mv_Run G mi n0 s0 pc L st sh M post := by
  obtain ⟨y, r, rfl, hb1⟩ := mv_pl_s hb
  obtain ⟨x, r, rfl, hb2⟩ := mv_pl_s hb1
  obtain ⟨hz, hb2⟩ := hb2
  intro p e s m args below meth cx H locs ls C hl hL hS hW hV hn0 hs0
  obtain ⟨hx, hcb, hml, hown, hts, hrt, hlk, hnm, hsz, hX, hbo, hK⟩ := id C
  have hy := (List.forall_mem_cons.mp hS).1
  have hx2 := (List.forall_mem_cons.mp (List.forall_mem_cons.mp hS).2).1
  have hR : mv_R64 (x.tmod y) := by
    have h0 : mv_R64 x := hx2
    have h1 : (x.tmod y).natAbs ≤ x.natAbs := by
      rw [Int.natAbs_tmod]
      exact Nat.mod_le _ _
    have h2 : 0 ≤ x → 0 ≤ x.tmod y := fun h => Int.tmod_nonneg y h
    have h3 : x.tmod y = -((-x).tmod y) := by rw [Int.neg_tmod, Int.neg_neg]
    have h4 : x ≤ 0 → 0 ≤ (-x).tmod y := fun h => Int.tmod_nonneg y (by omega)
    constructor <;> omega
  have K := hn _ _ _ _ hb2 p e s m args below meth cx H locs ls C hl hL (List.forall_mem_cons.mpr ⟨hR, (List.forall_mem_cons.mp (List.forall_mem_cons.mp hS).2).2⟩) hW hV hn0 hs0
  refine lv_lrem hx hcb hd (mv_nz64 hy hz) ?_
  rw [mv_md64 hx2 hy]
  exact K
theorem ms_lneg (hd : decode (mt_cc (mv_r mi)) pc = .ok (.lneg, 1)) (hn : mv_RN G mi n0 s0 (pc + 1) post NX)
    (hb : mv_pl st fun x r => mv_R64 (-x) ∧ NX L (.inr (.inl (-x)) :: r) sh M) : mv_Run G mi n0 s0 pc L st sh M post := by
  obtain ⟨x, r, rfl, hb1⟩ := mv_pl_s hb
  obtain ⟨hR, hb1⟩ := hb1
  intro p e s m args below meth cx H locs ls C hl hL hS hW hV hn0 hs0
  obtain ⟨hx, hcb, hml, hown, hts, hrt, hlk, hnm, hsz, hX, hbo, hK⟩ := id C
  have K := hn _ _ _ _ hb1 p e s m args below meth cx H locs ls C hl hL (List.forall_mem_cons.mpr ⟨hR, (List.forall_mem_cons.mp hS).2⟩) hW hV hn0 hs0
  refine lv_lneg hx hcb hd ?_
  rw [← Int64.ofInt_neg]
  exact K
theorem ms_iand (hd : decode (mt_cc (mv_r mi)) pc = .ok (.iand, 1)) (hn : mv_RN G mi n0 s0 (pc + 1) post NX)
    (hb : mv_pi st fun y r => mv_pi r fun x r => NX L (.inl (mv_and x y) :: r) sh M) : mv_Run G mi n0 s0 pc L st sh M post := by
  obtain ⟨y, r, rfl, hb1⟩ := mv_pi_s hb
  obtain ⟨x, r, rfl, hb2⟩ := mv_pi_s hb1
  intro p e s m args below meth cx H locs ls C hl hL hS hW hV hn0 hs0
  obtain ⟨hx, hcb, hml, hown, hts, hrt, hlk, hnm, hsz, hX, hbo, hK⟩ := id C
  have K := hn _ _ _ _ hb2 p e s m args below meth cx H locs ls C hl hL (List.forall_mem_cons.mpr ⟨mv_r32 _, (List.forall_mem_cons.mp (List.forall_mem_cons.mp hS).2).2⟩) hW hV hn0 hs0
  refine lv_iand hx hcb hd ?_
  have E : mv_ct G (.inl (mv_and x y)) = .int _ := congrArg Value.int (Int32.ofInt_toInt _)
  rw [List.map_cons, E] at K
  exact K
theorem ms_ixor (hd : decode (mt_cc (mv_r mi)) pc = .ok (.ixor, 1)) (hn : mv_RN G mi n0 s0 (pc + 1) post NX)
    (hb : mv_pi st fun y r => mv_pi r fun x r => NX L (.inl (mv_xor x y) :: r) sh M) : mv_Run G mi n0 s0 pc L st sh M post := by
  obtain ⟨y, r, rfl, hb1⟩ := mv_pi_s hb
  obtain ⟨x, r, rfl, hb2⟩ := mv_pi_s hb1
  intro p e s m args below meth cx H locs ls C hl hL hS hW hV hn0 hs0
  obtain ⟨hx, hcb, hml, hown, hts, hrt, hlk, hnm, hsz, hX, hbo, hK⟩ := id C
  have K := hn _ _ _ _ hb2 p e s m args below meth cx H locs ls C hl hL (List.forall_mem_cons.mpr ⟨mv_r32 _, (List.forall_mem_cons.mp (List.forall_mem_cons.mp hS).2).2⟩) hW hV hn0 hs0
  refine lv_ixor hx hcb hd ?_
  have E : mv_ct G (.inl (mv_xor x y)) = .int _ := congrArg Value.int (Int32.ofInt_toInt _)
  rw [List.map_cons, E] at K
  exact K
theorem ms_ishl (hd : decode (mt_cc (mv_r mi)) pc = .ok (.ishl, 1)) (hn : mv_RN G mi n0 s0 (pc + 1) post NX)
    (hb : mv_pi st fun y r => mv_pi r fun x r => NX L (.inl (mv_shl x y) :: r) sh M) : mv_Run G mi n0 s0 pc L st sh M post := by
  obtain ⟨y, r, rfl, hb1⟩ := mv_pi_s hb
  obtain ⟨x, r, rfl, hb2⟩ := mv_pi_s hb1
  intro p e s m args below meth cx H locs ls C hl hL hS hW hV hn0 hs0
  obtain ⟨hx, hcb, hml, hown, hts, hrt, hlk, hnm, hsz, hX, hbo, hK⟩ := id C
  have K := hn _ _ _ _ hb2 p e s m args below meth cx H locs ls C hl hL (List.forall_mem_cons.mpr ⟨mv_r32 _, (List.forall_mem_cons.mp (List.forall_mem_cons.mp hS).2).2⟩) hW hV hn0 hs0
  refine lv_ishl hx hcb hd ?_
  have E : mv_ct G (.inl (mv_shl x y)) = .int _ := congrArg Value.int (Int32.ofInt_toInt _)
  rw [List.map_cons, E] at K
  exact K
theorem ms_ishr (hd : decode (mt_cc (mv_r mi)) pc = .ok (.ishr, 1)) (hn : mv_RN G mi n0 s0 (pc + 1) post NX)
    (hb : mv_pi st fun y r => mv_pi r fun x r => NX L (.inl (mv_shr x y) :: r) sh M) : mv_Run G mi n0 s0 pc L st sh M post := by
  obtain ⟨y, r, rfl, hb1⟩ := mv_pi_s hb
  obtain ⟨x, r, rfl, hb2⟩ := mv_pi_s hb1
  intro p e s m args below meth cx H locs ls C hl hL hS hW hV hn0 hs0
  obtain ⟨hx, hcb, hml, hown, hts, hrt, hlk, hnm, hsz, hX, hbo, hK⟩ := id C
  have K := hn _ _ _ _ hb2 p e s m args below meth cx H locs ls C hl hL (List.forall_mem_cons.mpr ⟨mv_r32 _, (List.forall_mem_cons.mp (List.forall_mem_cons.mp hS).2).2⟩) hW hV hn0 hs0
  refine lv_ishr hx hcb hd ?_
  have E : mv_ct G (.inl (mv_shr x y)) = .int _ := congrArg Value.int (Int32.ofInt_toInt _)
  rw [List.map_cons, E] at K
  exact K
theorem ms_land (hd : decode (mt_cc (mv_r mi)) pc = .ok (.land, 1)) (hn : mv_RN G mi n0 s0 (pc + 1) post NX)
    (hb : mv_pl st fun y r => mv_pl r fun x r => NX L (.inr (.inl (mv_land x y)) :: r) sh M) : mv_Run G mi n0 s0 pc L st sh M post := by
  obtain ⟨y, r, rfl, hb1⟩ := mv_pl_s hb
  obtain ⟨x, r, rfl, hb2⟩ := mv_pl_s hb1
  intro p e s m args below meth cx H locs ls C hl hL hS hW hV hn0 hs0
  obtain ⟨hx, hcb, hml, hown, hts, hrt, hlk, hnm, hsz, hX, hbo, hK⟩ := id C
  have K := hn _ _ _ _ hb2 p e s m args below meth cx H locs ls C hl hL (List.forall_mem_cons.mpr ⟨mv_r64 _, (List.forall_mem_cons.mp (List.forall_mem_cons.mp hS).2).2⟩) hW hV hn0 hs0
  refine lv_land hx hcb hd ?_
  have E : mv_ct G (.inr (.inl (mv_land x y))) = .long _ := congrArg Value.long (Int64.ofInt_toInt _)
  rw [List.map_cons, E] at K
  exact K
theorem ms_lor (hd : decode (mt_cc (mv_r mi)) pc = .ok (.lor, 1)) (hn : mv_RN G mi n0 s0 (pc + 1) post NX)
    (hb : mv_pl st fun y r => mv_pl r fun x r => NX L (.inr (.inl (mv_lor x y)) :: r) sh M) : mv_Run G mi n0 s0 pc L st sh M post := by
  obtain ⟨y, r, rfl, hb1⟩ := mv_pl_s hb
  obtain ⟨x, r, rfl, hb2⟩ := mv_pl_s hb1
  intro p e s m args below meth cx H locs ls C hl hL hS hW hV hn0 hs0
  obtain ⟨hx, hcb, hml, hown, hts, hrt, hlk, hnm, hsz, hX, hbo, hK⟩ := id C
  have K := hn _ _ _ _ hb2 p e s m args below meth cx H locs ls C hl hL (List.forall_mem_cons.mpr ⟨mv_r64 _, (List.forall_mem_cons.mp (List.forall_mem_cons.mp hS).2).2⟩) hW hV hn0 hs0
  refine lv_lor hx hcb hd ?_
  have E : mv_ct G (.inr (.inl (mv_lor x y))) = .long _ := congrArg Value.long (Int64.ofInt_toInt _)
  rw [List.map_cons, E] at K
  exact K
theorem ms_lxor (hd : decode (mt_cc (mv_r mi)) pc = .ok (.lxor, 1)) (hn : mv_RN G mi n0 s0 (pc + 1) post NX)
    (hb : mv_pl st fun y r => mv_pl r fun x r => NX L (.inr (.inl (mv_lxor x y)) :: r) sh M) : mv_Run G mi n0 s0 pc L st sh M post := by
  obtain ⟨y, r, rfl, hb1⟩ := mv_pl_s hb
  obtain ⟨x, r, rfl, hb2⟩ := mv_pl_s hb1
  intro p e s m args below meth cx H locs ls C hl hL hS hW hV hn0 hs0
  obtain ⟨hx, hcb, hml, hown, hts, hrt, hlk, hnm, hsz, hX, hbo, hK⟩ := id C
  have K := hn _ _ _ _ hb2 p e s m args below meth cx H locs ls C hl hL (List.forall_mem_cons.mpr ⟨mv_r64 _, (List.forall_mem_cons.mp (List.forall_mem_cons.mp hS).2).2⟩) hW hV hn0 hs0
  refine lv_lxor hx hcb hd ?_
  have E : mv_ct G (.inr (.inl (mv_lxor x y))) = .long _ := congrArg Value.long (Int64.ofInt_toInt _)
  rw [List.map_cons, E] at K
  exact K
theorem ms_lshl (hd : decode (mt_cc (mv_r mi)) pc = .ok (.lshl, 1)) (hn : mv_RN G mi n0 s0 (pc + 1) post NX)
    (hb : mv_pi st fun y r => mv_pl r fun x r => NX L (.inr (.inl (mv_lshl x y)) :: r) sh M) : mv_Run G mi n0 s0 pc L st sh M post := by
  obtain ⟨y, r, rfl, hb1⟩ := mv_pi_s hb
  obtain ⟨x, r, rfl, hb2⟩ := mv_pl_s hb1
  intro p e s m args below meth cx H locs ls C hl hL hS hW hV hn0 hs0
  obtain ⟨hx, hcb, hml, hown, hts, hrt, hlk, hnm, hsz, hX, hbo, hK⟩ := id C
  have K := hn _ _ _ _ hb2 p e s m args below meth cx H locs ls C hl hL (List.forall_mem_cons.mpr ⟨mv_r64 _, (List.forall_mem_cons.mp (List.forall_mem_cons.mp hS).2).2⟩) hW hV hn0 hs0
  refine lv_lshl hx hcb hd rfl ?_
  have E : mv_ct G (.inr (.inl (mv_lshl x y))) = .long _ := congrArg Value.long (Int64.ofInt_toInt _)
  rw [List.map_cons, E] at K
  exact K
theorem ms_lshr (hd : decode (mt_cc (mv_r mi)) pc = .ok (.lshr, 1)) (hn : mv_RN G mi n0 s0 (pc + 1) post NX)
    (hb : mv_pi st fun y r => mv_pl r fun x r => NX L (.inr (.inl (mv_lshr x y)) :: r) sh M) : mv_Run G mi n0 s0 pc L st sh M post := by
  obtain ⟨y, r, rfl, hb1⟩ := mv_pi_s hb
  obtain ⟨x, r, rfl, hb2⟩ := mv_pl_s hb1
  intro p e s m args below meth cx H locs ls C hl hL hS hW hV hn0 hs0
  obtain ⟨hx, hcb, hml, hown, hts, hrt, hlk, hnm, hsz, hX, hbo, hK⟩ := id C
  have K := hn _ _ _ _ hb2 p e s m args below meth cx H locs ls C hl hL (List.forall_mem_cons.mpr ⟨mv_r64 _, (List.forall_mem_cons.mp (List.forall_mem_cons.mp hS).2).2⟩) hW hV hn0 hs0
  refine lv_lshr hx hcb hd rfl ?_
  have E : mv_ct G (.inr (.inl (mv_lshr x y))) = .long _ := congrArg Value.long (Int64.ofInt_toInt _)
  rw [List.map_cons, E] at K
  exact K
theorem ms_lushr (hd : decode (mt_cc (mv_r mi)) pc = .ok (.lushr, 1)) (hn : mv_RN G mi n0 s0 (pc + 1) post NX)
    (hb : mv_pi st fun y r => mv_pl r fun x r => NX L (.inr (.inl (mv_lushr x y)) :: r) sh M) : mv_Run G mi n0 s0 pc L st sh M post := by
  obtain ⟨y, r, rfl, hb1⟩ := mv_pi_s hb
  obtain ⟨x, r, rfl, hb2⟩ := mv_pl_s hb1
  intro p e s m args below meth cx H locs ls C hl hL hS hW hV hn0 hs0
  obtain ⟨hx, hcb, hml, hown, hts, hrt, hlk, hnm, hsz, hX, hbo, hK⟩ := id C
  have K := hn _ _ _ _ hb2 p e s m args below meth cx H locs ls C hl hL (List.forall_mem_cons.mpr ⟨mv_r64 _, (List.forall_mem_cons.mp (List.forall_mem_cons.mp hS).2).2⟩) hW hV hn0 hs0
  refine lv_lushr hx hcb hd rfl ?_
  have E : mv_ct G (.inr (.inl (mv_lushr x y))) = .long _ := congrArg Value.long (Int64.ofInt_toInt _)
  rw [List.map_cons, E] at K
  exact K
theorem ms_i2l (hd : decode (mt_cc (mv_r mi)) pc = .ok (.i2l, 1)) (hn : mv_RN G mi n0 s0 (pc + 1) post NX)
    (hb : mv_pi st fun x r => NX L (.inr (.inl x) :: r) sh M) : mv_Run G mi n0 s0 pc L st sh M post := by
  obtain ⟨x, r, rfl, hb1⟩ := mv_pi_s hb
  intro p e s m args below meth cx H locs ls C hl hL hS hW hV hn0 hs0
  obtain ⟨hx, hcb, hml, hown, hts, hrt, hlk, hnm, hsz, hX, hbo, hK⟩ := id C
  have h0 : mv_R32 x := (List.forall_mem_cons.mp hS).1
  have K := hn _ _ _ _ hb1 p e s m args below meth cx H locs ls C hl hL (List.forall_mem_cons.mpr ⟨mv_R6 h0, (List.forall_mem_cons.mp hS).2⟩) hW hV hn0 hs0
  have e1 : Int32.minValue.toInt = -2147483648 := by decide
  have e2 : Int32.maxValue.toInt = 2147483647 := by decide
  exact lv_i2l hx hcb hd (Int32.toInt64_ofInt (by omega) (by omega)) K
theorem ms_l2i (hd : decode (mt_cc (mv_r mi)) pc = .ok (.l2i, 1)) (hn : mv_RN G mi n0 s0 (pc + 1) post NX)
    (hb : mv_pl st fun x r => mv_R32 x ∧ NX L (.inl x :: r) sh M) : mv_Run G mi n0 s0 pc L st sh M post := by
  obtain ⟨x, r, rfl, hb1⟩ := mv_pl_s hb
  obtain ⟨hR, hb1⟩ := hb1
  intro p e s m args below meth cx H locs ls C hl hL hS hW hV hn0 hs0
  obtain ⟨hx, hcb, hml, hown, hts, hrt, hlk, hnm, hsz, hX, hbo, hK⟩ := id C
  have K := hn _ _ _ _ hb1 p e s m args below meth cx H locs ls C hl hL (List.forall_mem_cons.mpr ⟨hR, (List.forall_mem_cons.mp hS).2⟩) hW hV hn0 hs0
  exact lv_l2i hx hcb hd Int64.toInt32_ofInt K
theorem mv_cmp_e {x y : Int} (hx : mv_R64 x) (hy : mv_R64 y) : lg_cmp (Int64.ofInt x) (Int64.ofInt y) = Int32.ofInt (mv_cmp x y) := by
  unfold lg_cmp mv_cmp
  by_cases h : y < x
  · rw [if_pos ((mv_l64 hy hx).mpr h), if_pos h]; rfl
  · rw [if_neg (fun q => h ((mv_l64 hy hx).mp q)), if_neg h]
    by_cases h2 : x = y
    · rw [if_pos ((mv_e64 hx hy).mpr h2), if_pos h2]; rfl
    · rw [if_neg (fun q => h2 ((mv_e64 hx hy).mp q)), if_neg h2]; rfl
theorem mv_cmp_r (x y : Int) : mv_R32 (mv_cmp x y) := by
  unfold mv_cmp
  split
  · constructor <;> omega
  · split <;> constructor <;> omega
theorem ms_lcmp (hd : decode (mt_cc (mv_r mi)) pc = .ok (.lcmp, 1)) (hn : mv_RN G mi n0 s0 (pc + 1) post NX)
    (hb : mv_pl st fun y r => mv_pl r fun x r => NX L (.inl (mv_cmp x y) :: r) sh M) : mv_Run G mi n0 s0 pc L st sh M post := by
  obtain ⟨y, r, rfl, hb1⟩ := mv_pl_s hb
  obtain ⟨x, r, rfl, hb2⟩ := mv_pl_s hb1
  intro p e s m args below meth cx H locs ls C hl hL hS hW hV hn0 hs0
  obtain ⟨hx, hcb, hml, hown, hts, hrt, hlk, hnm, hsz, hX, hbo, hK⟩ := id C
  have hy : mv_R64 y := (List.forall_mem_cons.mp hS).1
  have hx2 : mv_R64 x := (List.forall_mem_cons.mp (List.forall_mem_cons.mp hS).2).1
  have K := hn _ _ _ _ hb2 p e s m args below meth cx H locs ls C hl hL (List.forall_mem_cons.mpr ⟨mv_cmp_r x y, (List.forall_mem_cons.mp (List.forall_mem_cons.mp hS).2).2⟩) hW hV hn0 hs0
  refine W.lcmp hx hcb hd ?_
  rw [mv_cmp_e hx2 hy]
  exact K
theorem mv_c1 {x : mv_V} (h : mv_isL x = false) : (mv_ct G x).category = 1 := by
  obtain x | x | x := x
  · rfl
  · cases h
  · rfl
theorem ms_dup (hd : decode (mt_cc (mv_r mi)) pc = .ok (.dup, 1)) (hn : mv_RN G mi n0 s0 (pc + 1) post NX)
    (hb : match (generalizing := false) st with
      | x :: r => if mv_isL x = false then NX L (x :: x :: r) sh M else False
      | _ => False) : mv_Run G mi n0 s0 pc L st sh M post := by
  obtain _ | ⟨x, r⟩ := st
  · exact hb.elim
  · have hc := mv_if_s hb
    obtain ⟨hc, hb⟩ := hc
    intro p e s m args below meth cx H locs ls C hl hL hS hW hV hn0 hs0
    obtain ⟨hx, hcb, hml, hown, hts, hrt, hlk, hnm, hsz, hX, hbo, hK⟩ := id C
    have K := hn _ _ _ _ hb p e s m args below meth cx H locs ls C hl hL (List.forall_mem_cons.mpr ⟨(List.forall_mem_cons.mp hS).1, hS⟩) hW hV hn0 hs0
    exact lv_dup hx hcb hd (mv_c1 hc) K
theorem ms_pop (hd : decode (mt_cc (mv_r mi)) pc = .ok (.pop, 1)) (hn : mv_RN G mi n0 s0 (pc + 1) post NX)
    (hb : match (generalizing := false) st with
      | x :: r => if mv_isL x = false then NX L r sh M else False
      | _ => False) : mv_Run G mi n0 s0 pc L st sh M post := by
  obtain _ | ⟨x, r⟩ := st
  · exact hb.elim
  · have hc := mv_if_s hb
    obtain ⟨hc, hb⟩ := hc
    intro p e s m args below meth cx H locs ls C hl hL hS hW hV hn0 hs0
    obtain ⟨hx, hcb, hml, hown, hts, hrt, hlk, hnm, hsz, hX, hbo, hK⟩ := id C
    have K := hn _ _ _ _ hb p e s m args below meth cx H locs ls C hl hL (List.forall_mem_cons.mp hS).2 hW hV hn0 hs0
    exact lv_pop hx hcb hd (mv_c1 hc) K
theorem ms_dup2 (hd : decode (mt_cc (mv_r mi)) pc = .ok (.dup2, 1)) (hn : mv_RN G mi n0 s0 (pc + 1) post NX)
    (hb : match (generalizing := false) st with
      | y :: x :: r => if mv_isL x = false ∧ mv_isL y = false then NX L (y :: x :: y :: x :: r) sh M else False
      | _ => False) : mv_Run G mi n0 s0 pc L st sh M post := by
  obtain _ | ⟨y, _ | ⟨x, r⟩⟩ := st
  · exact hb.elim
  · exact hb.elim
  · have hc := mv_if_s hb
    obtain ⟨⟨hc, hc2⟩, hb⟩ := hc
    intro p e s m args below meth cx H locs ls C hl hL hS hW hV hn0 hs0
    obtain ⟨hx, hcb, hml, hown, hts, hrt, hlk, hnm, hsz, hX, hbo, hK⟩ := id C
    have h1 := (List.forall_mem_cons.mp hS).1
    have h2 := (List.forall_mem_cons.mp (List.forall_mem_cons.mp hS).2).1
    have K := hn _ _ _ _ hb p e s m args below meth cx H locs ls C hl hL (List.forall_mem_cons.mpr ⟨h1, List.forall_mem_cons.mpr ⟨h2, hS⟩⟩) hW hV hn0 hs0
    exact lv_dup2_11 hx hcb hd (mv_c1 hc2) (mv_c1 hc) K
theorem ms_iconst {i : Instr} {ln : Nat} (hd : decode (mt_cc (mv_r mi)) pc = .ok (i, ln)) (hf : mv_fit (mv_r mi) pc ln (.iconst 0) a b c v ts i = true) (hn : mv_RN G mi n0 s0 (pc + ln) post NX)
    (hb : NX L (.inl v :: st) sh M) : mv_Run G mi n0 s0 pc L st sh M post := by
  intro p e s m args below meth cx H locs ls C hl hL hS hW hV hn0 hs0
  obtain ⟨hx, hcb, hml, hown, hts, hrt, hlk, hnm, hsz, hX, hbo, hK⟩ := id C
  unfold mv_fit at hf
  dsimp only at hf
  rw [Bool.and_eq_true, decide_eq_true_eq] at hf
  obtain ⟨hR, hf⟩ := hf
  have K := hn _ _ _ _ hb p e s m args below meth cx H locs ls C hl hL (List.forall_mem_cons.mpr ⟨hR, hS⟩) hW hV hn0 hs0
  cases i with
  | iconst n =>
    simp only [Bool.and_eq_true, decide_eq_true_eq] at hf
    obtain ⟨rfl, h⟩ := hf
    exact lv_iconst hx hcb hd h K
  | bipush n =>
    simp only [Bool.and_eq_true, decide_eq_true_eq] at hf
    obtain ⟨rfl, h⟩ := hf
    exact lv_bipush hx hcb hd h K
  | sipush n =>
    simp only [Bool.and_eq_true, decide_eq_true_eq] at hf
    obtain ⟨rfl, h⟩ := hf
    exact lv_sipush hx hcb hd h K
  | ldc n =>
    simp only [Bool.and_eq_true, decide_eq_true_eq] at hf
    obtain ⟨rfl, h⟩ := hf
    exact lv_ldc hx hcb hown (hts _ (mv_hw_mem h)) hd K
  | ldc_w n =>
    simp only [Bool.and_eq_true, decide_eq_true_eq] at hf
    obtain ⟨rfl, h⟩ := hf
    exact lv_ldcw hx hcb hown (hts _ (mv_hw_mem h)) hd K
  | _ => cases hf
theorem ms_lconst {i : Instr} {ln : Nat} (hd : decode (mt_cc (mv_r mi)) pc = .ok (i, ln)) (hf : mv_fit (mv_r mi) pc ln (.lconst 0) a b c v ts i = true) (hn : mv_RN G mi n0 s0 (pc + ln) post NX)
    (hb : NX L (.inr (.inl v) :: st) sh M) : mv_Run G mi n0 s0 pc L st sh M post := by
  intro p e s m args below meth cx H locs ls C hl hL hS hW hV hn0 hs0
  obtain ⟨hx, hcb, hml, hown, hts, hrt, hlk, hnm, hsz, hX, hbo, hK⟩ := id C
  unfold mv_fit at hf
  dsimp only at hf
  rw [Bool.and_eq_true, decide_eq_true_eq] at hf
  obtain ⟨hR, hf⟩ := hf
  have K := hn _ _ _ _ hb p e s m args below meth cx H locs ls C hl hL (List.forall_mem_cons.mpr ⟨hR, hS⟩) hW hV hn0 hs0
  cases i with
  | lconst n =>
    simp only [Bool.and_eq_true, decide_eq_true_eq] at hf
    obtain ⟨rfl, h⟩ := hf
    exact lv_lconst hx hcb hd h K
  | ldc2_w n =>
    simp only [Bool.and_eq_true, decide_eq_true_eq] at hf
    obtain ⟨rfl, h⟩ := hf
    exact lv_ldc2 hx hcb hown (hts _ (mv_hw_mem h)) hd K
  | _ => cases hf
theorem ms_iload {i : Instr} {ln : Nat} (hd : decode (mt_cc (mv_r mi)) pc = .ok (i, ln)) (hf : mv_fit (mv_r mi) pc ln (.iload 0) a b c v ts i = true) (hn : mv_RN G mi n0 s0 (pc + ln) post NX)
    (hb : match mv_lg a L with
      | some (.inl x) => NX L (.inl x :: st) sh M
      | _ => False) : mv_Run G mi n0 s0 pc L st sh M post := by
  split at hb
  · rename_i x hg
    intro p e s m args below meth cx H locs ls C hl hL hS hW hV hn0 hs0
    obtain ⟨hx, hcb, hml, hown, hts, hrt, hlk, hnm, hsz, hX, hbo, hK⟩ := id C
    have K := hn _ _ _ _ hb p e s m args below meth cx H locs ls C hl hL (List.forall_mem_cons.mpr ⟨mv_lg_o hL hg, hS⟩) hW hV hn0 hs0
    have hg2 := mv_lg_at hl hg
    unfold mv_fit at hf
    dsimp only at hf
    cases i with
    | iload_n n =>
      simp only [Bool.and_eq_true, decide_eq_true_eq] at hf
      obtain ⟨rfl, h⟩ := hf
      exact lv_iload_n hx hcb hd h hg2 K
    | iload n =>
      simp only [Bool.and_eq_true, decide_eq_true_eq] at hf
      obtain ⟨rfl, rfl⟩ := hf
      exact lv_iload hx hcb hd hg2 K
    | _ => cases hf
  · exact hb.elim
theorem ms_lload {i : Instr} {ln : Nat} (hd : decode (mt_cc (mv_r mi)) pc = .ok (i, ln)) (hf : mv_fit (mv_r mi) pc ln (.lload 0) a b c v ts i = true) (hn : mv_RN G mi n0 s0 (pc + ln) post NX)
    (hb : match mv_lg a L with
      | some (.inr (.inl x)) => NX L (.inr (.inl x) :: st) sh M
      | _ => False) : mv_Run G mi n0 s0 pc L st sh M post := by
  split at hb
  · rename_i x hg
    intro p e s m args below meth cx H locs ls C hl hL hS hW hV hn0 hs0
    obtain ⟨hx, hcb, hml, hown, hts, hrt, hlk, hnm, hsz, hX, hbo, hK⟩ := id C
    have K := hn _ _ _ _ hb p e s m args below meth cx H locs ls C hl hL (List.forall_mem_cons.mpr ⟨mv_lg_o hL hg, hS⟩) hW hV hn0 hs0
    have hg2 := mv_lg_at hl hg
    unfold mv_fit at hf
    dsimp only at hf
    cases i with
    | lload_n n =>
      simp only [Bool.and_eq_true, decide_eq_true_eq] at hf
      obtain ⟨rfl, h⟩ := hf
      exact lv_lload_n hx hcb hd h hg2 K
    | lload n =>
      simp only [Bool.and_eq_true, decide_eq_true_eq] at hf
      obtain ⟨rfl, rfl⟩ := hf
      exact lv_lload hx hcb hd hg2 K
    | _ => cases hf
  · exact hb.elim
theorem ms_aload {i : Instr} {ln : Nat} (hd : decode (mt_cc (mv_r mi)) pc = .ok (i, ln)) (hf : mv_fit (mv_r mi) pc ln (.aload 0) a b c v ts i = true) (hn : mv_RN G mi n0 s0 (pc + ln) post NX)
    (hb : match mv_lg a L with
      | some (.inr (.inr x)) => NX L (.inr (.inr x) :: st) sh M
      | _ => False) : mv_Run G mi n0 s0 pc L st sh M post := by
  split at hb
  · rename_i x hg
    intro p e s m args below meth cx H locs ls C hl hL hS hW hV hn0 hs0
    obtain ⟨hx, hcb, hml, hown, hts, hrt, hlk, hnm, hsz, hX, hbo, hK⟩ := id C
    have K := hn _ _ _ _ hb p e s m args below meth cx H locs ls C hl hL (List.forall_mem_cons.mpr ⟨mv_lg_o hL hg, hS⟩) hW hV hn0 hs0
    have hg2 := mv_lg_at hl hg
    unfold mv_fit at hf
    dsimp only at hf
    cases i with
    | aload_n n =>
      simp only [Bool.and_eq_true, decide_eq_true_eq] at hf
      obtain ⟨rfl, h⟩ := hf
      exact lv_aload_n hx hcb hd h hg2 K
    | aload n =>
      simp only [Bool.and_eq_true, decide_eq_true_eq] at hf
      obtain ⟨rfl, rfl⟩ := hf
      exact lv_aload hx hcb hd hg2 K
    | _ => cases hf
  · exact hb.elim
theorem ms_istore {i : Instr} {ln : Nat} (hd : decode (mt_cc (mv_r mi)) pc = .ok (i, ln)) (hf : mv_fit (mv_r mi) pc ln (.istore 0) a b c v ts i = true) (hn : mv_RN G mi n0 s0 (pc + ln) post NX)
    (hb : mv_pi st fun x r => NX (mv_st1 a (.inl x) L) r sh M) : mv_Run G mi n0 s0 pc L st sh M post := by
  obtain ⟨x, r, rfl, hb1⟩ := mv_pi_s hb
  intro p e s m args below meth cx H locs ls C hl hL hS hW hV hn0 hs0
  obtain ⟨hx, hcb, hml, hown, hts, hrt, hlk, hnm, hsz, hX, hbo, hK⟩ := id C
  have hS2 := List.forall_mem_cons.mp hS
  unfold mv_fit at hf
  dsimp only at hf
  rw [Bool.and_eq_true] at hf
  obtain ⟨hlt, hf⟩ := hf
  have hlt : a < mt_nL (mv_r mi) := Nat.le_of_ble_eq_true hlt
  have K := fun (ls : Array Slot) hl => hn _ _ _ _ hb1 p e s m args below meth cx H locs ls C hl (mv_st1_o hL hS2.1) hS2.2 hW hV hn0 hs0
  cases i with
  | istore_n n =>
    simp only [Bool.and_eq_true, decide_eq_true_eq] at hf
    obtain ⟨rfl, h⟩ := hf
    exact lv_istore_n hx hcb hd h hl hlt (mv_st1_m G a (.inl x) L) K
  | istore n =>
    simp only [Bool.and_eq_true, decide_eq_true_eq] at hf
    obtain ⟨rfl, rfl⟩ := hf
    exact lv_istore hx hcb hd hl hlt (mv_st1_m G _ (.inl x) L) K
  | _ => cases hf
theorem ms_astore {i : Instr} {ln : Nat} (hd : decode (mt_cc (mv_r mi)) pc = .ok (i, ln)) (hf : mv_fit (mv_r mi) pc ln (.astore 0) a b c v ts i = true) (hn : mv_RN G mi n0 s0 (pc + ln) post NX)
    (hb : mv_pr st fun x r => NX (mv_st1 a (.inr (.inr x)) L) r sh M) : mv_Run G mi n0 s0 pc L st sh M post := by
  obtain ⟨x, r, rfl, hb1⟩ := mv_pr_s hb
  intro p e s m args below meth cx H locs ls C hl hL hS hW hV hn0 hs0
  obtain ⟨hx, hcb, hml, hown, hts, hrt, hlk, hnm, hsz, hX, hbo, hK⟩ := id C
  have hS2 := List.forall_mem_cons.mp hS
  unfold mv_fit at hf
  dsimp only at hf
  rw [Bool.and_eq_true] at hf
  obtain ⟨hlt, hf⟩ := hf
  have hlt : a < mt_nL (mv_r mi) := Nat.le_of_ble_eq_true hlt
  have K := fun (ls : Array Slot) hl => hn _ _ _ _ hb1 p e s m args below meth cx H locs ls C hl (mv_st1_o hL hS2.1) hS2.2 hW hV hn0 hs0
  cases i with
  | astore_n n =>
    simp only [Bool.and_eq_true, decide_eq_true_eq] at hf
    obtain ⟨rfl, h⟩ := hf
    exact lv_astore_n hx hcb hd h hl hlt (mv_st1_m G a (.inr (.inr x)) L) K
  | astore n =>
    simp only [Bool.and_eq_true, decide_eq_true_eq] at hf
    obtain ⟨rfl, rfl⟩ := hf
    exact lv_astore hx hcb hd hl hlt (mv_st1_m G _ (.inr (.inr x)) L) K
  | _ => cases hf
theorem ms_lstore {i : Instr} {ln : Nat} (hd : decode (mt_cc (mv_r mi)) pc = .ok (i, ln)) (hf : mv_fit (mv_r mi) pc ln (.lstore 0) a b c v ts i = true) (hn : mv_RN G mi n0 s0 (pc + ln) post NX)
    (hb : mv_pl st fun x r => NX (mv_st2 a x L) r sh M) : mv_Run G mi n0 s0 pc L st sh M post := by
  obtain ⟨x, r, rfl, hb1⟩ := mv_pl_s hb
  intro p e s m args below meth cx H locs ls C hl hL hS hW hV hn0 hs0
  obtain ⟨hx, hcb, hml, hown, hts, hrt, hlk, hnm, hsz, hX, hbo, hK⟩ := id C
  have hS2 := List.forall_mem_cons.mp hS
  unfold mv_fit at hf
  dsimp only at hf
  rw [Bool.and_eq_true] at hf
  obtain ⟨hlt, hf⟩ := hf
  have hlt : a + 1 < mt_nL (mv_r mi) := Nat.le_of_ble_eq_true hlt
  have K := fun (ls : Array Slot) hl => hn _ _ _ _ hb1 p e s m args below meth cx H locs ls C hl (mv_st2_o hL hS2.1) hS2.2 hW hV hn0 hs0
  cases i with
  | lstore_n n =>
    simp only [Bool.and_eq_true, decide_eq_true_eq] at hf
    obtain ⟨rfl, h⟩ := hf
    exact lv_lstore_n hx hcb hd h hl hlt (mv_st2_m G a x L) K
  | lstore n =>
    simp only [Bool.and_eq_true, decide_eq_true_eq] at hf
    obtain ⟨rfl, rfl⟩ := hf
    exact lv_lstore hx hcb hd hl hlt (mv_st2_m G _ x L) K
  | _ => cases hf
theorem ms_iinc {i : Instr} {ln : Nat} (hd : decode (mt_cc (mv_r mi)) pc = .ok (i, ln)) (hf : mv_fit (mv_r mi) pc ln (.iinc 0 0) a b c v ts i = true) (hn : mv_RN G mi n0 s0 (pc + ln) post NX)
    (hb : match mv_lg a L with
      | some (.inl x) => mv_R32 (x + v) ∧ NX (mv_st1 a (.inl (x + v)) L) st sh M
      | _ => False) : mv_Run G mi n0 s0 pc L st sh M post := by
  split at hb
  · rename_i x hg
    obtain ⟨hR, hb⟩ := hb
    intro p e s m args below meth cx H locs ls C hl hL hS hW hV hn0 hs0
    obtain ⟨hx, hcb, hml, hown, hts, hrt, hlk, hnm, hsz, hX, hbo, hK⟩ := id C
    unfold mv_fit at hf
    dsimp only at hf
    rw [Bool.and_eq_true] at hf
    obtain ⟨hlt, hf⟩ := hf
    have hlt : a < mt_nL (mv_r mi) := Nat.le_of_ble_eq_true hlt
    have K := fun (ls : Array Slot) hl => hn _ _ _ _ hb p e s m args below meth cx H locs ls C hl (mv_st1_o hL hR) hS hW hV hn0 hs0
    obtain ⟨k, hk⟩ := mv_lg_pos (G := G) hg
    cases i with
    | iinc n z =>
      simp only [Bool.and_eq_true, decide_eq_true_eq] at hf
      obtain ⟨rfl, rfl, h⟩ := hf
      exact lv_iinc hx hcb hd hl hk (v := Int32.ofInt (x + v)) (by rw [h, ← Int32.ofInt_add]) hlt (mv_st1_m G _ (.inl (x + v)) L) K
    | _ => cases hf
  · exact hb.elim
theorem ms_goto {i : Instr} {ln : Nat} (hd : decode (mt_cc (mv_r mi)) pc = .ok (i, ln)) (hf : mv_fit (mv_r mi) pc ln (.goto 0) a b c v ts i = true) (hj : mv_RN G mi n0 s0 a post NX)
    (hb : NX L st sh M) : mv_Run G mi n0 s0 pc L st sh M post := by
  intro p e s m args below meth cx H locs ls C hl hL hS hW hV hn0 hs0
  obtain ⟨hx, hcb, hml, hown, hts, hrt, hlk, hnm, hsz, hX, hbo, hK⟩ := id C
  have K := hj _ _ _ _ hb p e s m args below meth cx H locs ls C hl hL hS hW hV hn0 hs0
  unfold mv_fit at hf
  dsimp only at hf
  cases i with
  | goto off =>
    simp only [Bool.and_eq_true, decide_eq_true_eq] at hf
    obtain ⟨rfl, h⟩ := hf
    exact lv_goto hx hcb hd h K
  | _ => cases hf
theorem ms_if {i : Instr} {ln : Nat} {k : Jvm.ClassFile.Cond} (hd : decode (mt_cc (mv_r mi)) pc = .ok (i, ln)) (hf : mv_fit (mv_r mi) pc ln (.ifCond k 0) a b c v ts i = true) (hn : mv_RN G mi n0 s0 (pc + ln) post NX) (hj : mv_RN G mi n0 s0 a post (JP a))
    (hb : mv_pi st fun x r => mv_cd k x 0 (JP a L r sh M) (NX L r sh M)) : mv_Run G mi n0 s0 pc L st sh M post := by
  obtain ⟨x, r, rfl, hb1⟩ := mv_pi_s hb
  intro p e s m args below meth cx H locs ls C hl hL hS hW hV hn0 hs0
  obtain ⟨hx, hcb, hml, hown, hts, hrt, hlk, hnm, hsz, hX, hbo, hK⟩ := id C
  have hS2 := List.forall_mem_cons.mp hS
  have hxr : mv_R32 x := hS2.1
  have KN := fun hb1 => hn _ _ _ _ hb1 p e s m args below meth cx H locs ls C hl hL hS2.2 hW hV hn0 hs0
  have KJ := fun hb1 => hj _ _ _ _ hb1 p e s m args below meth cx H locs ls C hl hL hS2.2 hW hV hn0 hs0
  unfold mv_fit at hf
  dsimp only at hf
  cases i with
  | ifCond k' off =>
    simp only [Bool.and_eq_true, decide_eq_true_eq] at hf
    obtain ⟨rfl, rfl, h⟩ := hf
    cases k' with
    | eq => exact lv_if_eq hx hcb hd h (fun q => KJ (by dsimp only [mv_cd] at hb1; rw [if_pos ((mv_e32 hxr mv_z32).mp q)] at hb1; exact hb1)) (fun q => KN (by dsimp only [mv_cd] at hb1; rw [if_neg (fun z => q ((mv_e32 hxr mv_z32).mpr z))] at hb1; exact hb1))
    | ne => exact lv_if_ne hx hcb hd h (fun q => KJ (by dsimp only [mv_cd] at hb1; rw [if_neg (fun z => q ((mv_e32 hxr mv_z32).mpr z))] at hb1; exact hb1)) (fun q => KN (by dsimp only [mv_cd] at hb1; rw [if_pos ((mv_e32 hxr mv_z32).mp q)] at hb1; exact hb1))
    | lt => exact lv_if_lt hx hcb hd h (fun q => KJ (by dsimp only [mv_cd] at hb1; rw [if_pos ((mv_l32 hxr mv_z32).mp q)] at hb1; exact hb1)) (fun q => KN (by dsimp only [mv_cd] at hb1; rw [if_neg (fun z => q ((mv_l32 hxr mv_z32).mpr z))] at hb1; exact hb1))
    | ge => exact lv_if_ge hx hcb hd h (fun q => KJ (by dsimp only [mv_cd] at hb1; rw [if_pos ((mv_le32 mv_z32 hxr).mp q)] at hb1; exact hb1)) (fun q => KN (by dsimp only [mv_cd] at hb1; rw [if_neg (fun z => q ((mv_le32 mv_z32 hxr).mpr z))] at hb1; exact hb1))
    | gt => exact lv_if_gt hx hcb hd h (fun q => KJ (by dsimp only [mv_cd] at hb1; rw [if_pos ((mv_l32 mv_z32 hxr).mp q)] at hb1; exact hb1)) (fun q => KN (by dsimp only [mv_cd] at hb1; rw [if_neg (fun z => q ((mv_l32 mv_z32 hxr).mpr z))] at hb1; exact hb1))
    | le => exact lv_if_le hx hcb hd h (fun q => KJ (by dsimp only [mv_cd] at hb1; rw [if_pos ((mv_le32 hxr mv_z32).mp q)] at hb1; exact hb1)) (fun q => KN (by dsimp only [mv_cd] at hb1; rw [if_neg (fun z => q ((mv_le32 hxr mv_z32).mpr z))] at hb1; exact hb1))
  | _ => cases hf
theorem ms_icmp {i : Instr} {ln : Nat} {k : Jvm.ClassFile.Cond} (hd : decode (mt_cc (mv_r mi)) pc = .ok (i, ln)) (hf : mv_fit (mv_r mi) pc ln (.if_icmp k 0) a b c v ts i = true) (hn : mv_RN G mi n0 s0 (pc + ln) post NX) (hj : mv_RN G mi n0 s0 a post (JP a))
    (hb : mv_pi st fun y r => mv_pi r fun x r => mv_cd k x y (JP a L r sh M) (NX L r sh M)) : mv_Run G mi n0 s0 pc L st sh M post := by
  obtain ⟨y, r, rfl, hb1⟩ := mv_pi_s hb
  obtain ⟨x, r, rfl, hb2⟩ := mv_pi_s hb1
  intro p e s m args below meth cx H locs ls C hl hL hS hW hV hn0 hs0
  obtain ⟨hx, hcb, hml, hown, hts, hrt, hlk, hnm, hsz, hX, hbo, hK⟩ := id C
  have hS1 := List.forall_mem_cons.mp hS
  have hyr : mv_R32 y := hS1.1
  have hS2 := List.forall_mem_cons.mp hS1.2
  have hxr : mv_R32 x := hS2.1
  have KN := fun hb2 => hn _ _ _ _ hb2 p e s m args below meth cx H locs ls C hl hL hS2.2 hW hV hn0 hs0
  have KJ := fun hb2 => hj _ _ _ _ hb2 p e s m args below meth cx H locs ls C hl hL hS2.2 hW hV hn0 hs0
  unfold mv_fit at hf
  dsimp only at hf
  cases i with
  | if_icmp k' off =>
    simp only [Bool.and_eq_true, decide_eq_true_eq] at hf
    obtain ⟨rfl, rfl, h⟩ := hf
    cases k' with
    | eq => exact lv_icmp_eq hx hcb hd h (fun q => KJ (by dsimp only [mv_cd] at hb2; rw [if_pos ((mv_e32 hxr hyr).mp q)] at hb2; exact hb2)) (fun q => KN (by dsimp only [mv_cd] at hb2; rw [if_neg (fun z => q ((mv_e32 hxr hyr).mpr z))] at hb2; exact hb2))
    | ne => exact lv_icmp_ne hx hcb hd h (fun q => KJ (by dsimp only [mv_cd] at hb2; rw [if_neg (fun z => q ((mv_e32 hxr hyr).mpr z))] at hb2; exact hb2)) (fun q => KN (by dsimp only [mv_cd] at hb2; rw [if_pos ((mv_e32 hxr hyr).mp q)] at hb2; exact hb2))
    | lt => exact lv_icmp_lt hx hcb hd h (fun q => KJ (by dsimp only [mv_cd] at hb2; rw [if_pos ((mv_l32 hxr hyr).mp q)] at hb2; exact hb2)) (fun q => KN (by dsimp only [mv_cd] at hb2; rw [if_neg (fun z => q ((mv_l32 hxr hyr).mpr z))] at hb2; exact hb2))
    | ge => exact lv_icmp_ge hx hcb hd h (fun q => KJ (by dsimp only [mv_cd] at hb2; rw [if_pos ((mv_le32 hyr hxr).mp q)] at hb2; exact hb2)) (fun q => KN (by dsimp only [mv_cd] at hb2; rw [if_neg (fun z => q ((mv_le32 hyr hxr).mpr z))] at hb2; exact hb2))
    | gt => exact lv_icmp_gt hx hcb hd h (fun q => KJ (by dsimp only [mv_cd] at hb2; rw [if_pos ((mv_l32 hyr hxr).mp q)] at hb2; exact hb2)) (fun q => KN (by dsimp only [mv_cd] at hb2; rw [if_neg (fun z => q ((mv_l32 hyr hxr).mpr z))] at hb2; exact hb2))
    | le => exact lv_icmp_le hx hcb hd h (fun q => KJ (by dsimp only [mv_cd] at hb2; rw [if_pos ((mv_le32 hxr hyr).mp q)] at hb2; exact hb2)) (fun q => KN (by dsimp only [mv_cd] at hb2; rw [if_neg (fun z => q ((mv_le32 hxr hyr).mpr z))] at hb2; exact hb2))
  | _ => cases hf
end MS
