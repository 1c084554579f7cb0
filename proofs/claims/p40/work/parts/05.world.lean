/-! THE SMALL MACHINE STANDS FOR THE MACHINE (by program: wip/p40/simgen.py) -/
/-- launch; the script's address; where each cell lies (those that come, behind each other at the heap's end); class ids and slots; the classes of int[], long[], boolean[]; the script -/
abbrev mv_G : Type := Launch × Nat × (Nat → Nat) × (Nat → ClassId) × (Nat → Nat → Nat) × ClassId × ClassId × ClassId × Nat × (Nat → Int)
def mg_l (G : mv_G) : Launch := G.1
def mg_b (G : mv_G) : Nat := G.2.1
def mg_a (G : mv_G) : Nat → Nat := G.2.2.1
def mg_D (G : mv_G) : va_G := (G.2.2.2.1, G.2.2.2.2.1)
def mg_I (G : mv_G) : ClassId := G.2.2.2.2.2.1
def mg_J (G : mv_G) : ClassId := G.2.2.2.2.2.2.1
def mg_Z (G : mv_G) : ClassId := G.2.2.2.2.2.2.2.1
def mg_L (G : mv_G) : Nat := G.2.2.2.2.2.2.2.2.1
def mg_X (G : mv_G) : Nat → Int := G.2.2.2.2.2.2.2.2.2
def mg_A (G : mv_G) : Nat → Prop := fun q => ∃ k, 1 ≤ k ∧ q = mg_a G k
/-- the cells behind the n-th come at the heap's end, that is at z -/
def mv_hp (G : mv_G) (n z : Nat) : Prop := ∀ j, mg_a G (n + 1 + j) = z + j
def mv_bo (G : mv_G) (z : Nat) : Prop := mg_b G < z ∧ ¬ mg_A G (mg_b G)
def mg_ty (G : mv_G) : List (ClassId × FieldType) := [(mg_I G, .int), (mg_J G, .long)]
def mv_ad (G : mv_G) (k : Nat) : Nat := if k = 0 then mg_b G else mg_a G k
def mv_ct (G : mv_G) : mv_V → Value
  | .inl x => .int (Int32.ofInt x)
  | .inr (.inl x) => .long (Int64.ofInt x)
  | .inr (.inr k) => .ref (mv_ad G k)
def mv_ov : mv_V → Prop
  | .inl x => mv_R32 x
  | .inr (.inl x) => mv_R64 x
  | .inr (.inr _) => True
def mv_fv (G : mv_G) (sh : mv_SH) (M : mv_Mem) (ci k f : Nat) : Value := if mv_kd ci f = 2 then (if sh.2.2.2.2 k f = 0 then .null else .ref (mv_ad G (sh.2.2.2.2 k f))) else .int (Int32.ofInt (M k f))
def mv_ce (G : mv_G) (sh : mv_SH) (M : mv_Mem) (k : Nat) : va_E :=
  if sh.2.2.1 k = 100 then .inl (mg_I G, sh.2.2.2.1 k, .inl (fun i => Int32.ofInt (M k i)))
  else if sh.2.2.1 k = 101 then .inl (mg_J G, sh.2.2.2.1 k, .inr (.inl (fun i => Int64.ofInt (M k i))))
  else if sh.2.2.1 k = 102 then .inl (mg_Z G, sh.2.2.2.1 k, .inl (fun i => Int32.ofInt (M k i)))
  else .inr (sh.2.2.1 k, (List.range (mv_nf (sh.2.2.1 k))).map (mv_fv G sh M (sh.2.2.1 k) k))
def mv_ws (G : mv_G) (sh : mv_SH) (M : mv_Mem) : va_W := (List.range sh.1).map (fun j => (mg_a G (j + 1), mv_ce G sh M (j + 1)))
def mv_Nm (G : mv_G) (sh : mv_SH) (M : mv_Mem) : Prop :=
  (sh.2.2.1 0 = 100 ∧ sh.2.2.2.1 0 = mg_L G ∧ ∀ i, M 0 i = mg_X G i) ∧ (∀ k i, mv_R64 (M k i) ∧ (sh.2.2.1 k ≠ 101 → mv_R32 (M k i))) ∧ ∀ k, sh.2.2.2.1 k ≤ 100000
def mv_Wd (G : mv_G) (sh : mv_SH) (M : mv_Mem) (H : Heap) : Prop :=
  va_P (mg_D G) vwCl (mv_ws G sh M) H ∧ va_D (mg_A G) (mv_ws G sh M) ∧ mv_Nm G sh M
/-- what a method's end says -/
def mv_Po (G : mv_G) (mc n1 s1 : Nat) (post : Option mv_V → mv_SH → mv_Mem → Prop) : Array Value → State → Outcome → State → Prop := fun _ st o t =>
  (∃ (r : Option mv_V) (sh : mv_SH) (M : mv_Mem), o = .returned (r.map (mv_ct G)) ∧ (∀ x, r = some x → mv_ov x) ∧ post r sh M ∧ (150 ≤ mc ∨ (sh.1 = n1 ∧ sh.2.1 = s1)) ∧ mv_Wd G sh M t.heap) ∧ va_F (mg_A G) st t
def mv_Pc (G : mv_G) (as : List mv_V) (sh : mv_SH) (M : mv_Mem) : Array Value → State → Prop :=
  va_Pc (as.map (mv_ct G)) (fun U => mv_hp G sh.1 U.heap.size ∧ mv_Wd G sh M U.heap ∧ va_K (mg_D G) vwCl (mg_ty G) U ∧ va_X (mg_b G) (mg_L G) (fun j => Int32.ofInt (mg_X G j)) U U.heap ∧ mv_bo G U.heap.size ∧ ∀ x ∈ as, mv_ov x)
def mv_wl (q : mv_T) : List Jvm.Cond := .code (mt_y q) (mt_cc q) (mt_nL q) (mt_ret q) :: mv_tbl
/-- a call of method c with these arguments in this world ends, with an answer and a world of which 'post' holds -/
def mv_Wp (G : mv_G) (c : Nat) (as : List mv_V) (sh : mv_SH) (M : mv_Mem) (post : Option mv_V → mv_SH → mv_Mem → Prop) : Prop :=
  Jvm.Cond.code (mt_y (mv_r c)) (mt_cc (mv_r c)) (mt_nL (mv_r c)) (mt_ret (mv_r c)) ∈ mv_tbl ∧ 
  Met (mg_l G) (mt_y (mv_r c)) (mv_wl (mv_r c)) (mt_rm (mv_r c)) (mv_Pc G as sh M) (mv_Po G (mt_mc (mv_r c)) (sh.1 + mt_mc (mv_r c)) (sh.2.1 + mt_ms (mv_r c)) post) (mt_mc (mv_r c)) (mt_ms (mv_r c)) (mg_A G)
def mv_Cx (G : mv_G) (mi n0 : Nat) (p : Program) (s : State) (m : MethodId) (args : Array Value) (meth : Method) (c : Code) : Prop :=
  p.tables.exec = Jvm.exec ∧ c.code = mt_cc (mv_r mi) ∧ c.maxLocals = mt_nL (mv_r mi) ∧ s.vm.findClass (mt_own (mv_r mi)) = some m.cls ∧ (∀ w ∈ mv_tbl, w.before args s = true) ∧ meth.sig.returnType = mt_ret (mv_r mi) ∧ meth.locks = false ∧
  meth.name = (mt_y (mv_r mi)).name ∧ mv_hp G n0 s.heap.size ∧ va_X (mg_b G) (mg_L G) (fun j => Int32.ofInt (mg_X G j)) s s.heap ∧ mv_bo G s.heap.size ∧ va_K (mg_D G) vwCl (mg_ty G) s
/-- from the place pc of method mi on, with these locals and this stack, in this world: the method ends, with an answer and a world of which 'post' holds -/
def mv_Run (G : mv_G) (mi n0 s0 pc : Nat) (L : mv_L) (st : List mv_V) (sh : mv_SH) (M : mv_Mem) (post : Option mv_V → mv_SH → mv_Mem → Prop) : Prop :=
  ∀ (p : Program) (e : Env) (s : State) (m : MethodId) (args : Array Value) (below : List Frame) (meth : Method) (c : Code) (H : Heap) (locs : List Loc) (ls : Array Slot),
    mv_Cx G mi n0 p s m args meth c → lv_has ls (mt_nL (mv_r mi)) (L.map (fun q => (q.1, mv_ct G q.2))) → (∀ q ∈ L, mv_ov q.2) → (∀ x ∈ st, mv_ov x) → mv_Wd G sh M H → va_S (mg_A G) s.heap H locs →
    (n0 ≤ sh.1 ∧ sh.1 ≤ n0 + mt_mc (mv_r mi)) → (s0 ≤ sh.2.1 ∧ sh.2.1 ≤ s0 + mt_ms (mv_r mi)) →
    W p (mg_l G) e (mt_rm (mv_r mi)) s m args below meth c H locs (sh.1 - n0) (sh.2.1 - s0) (MQ below (mv_Po G (mt_mc (mv_r mi)) (n0 + mt_mc (mv_r mi)) (s0 + mt_ms (mv_r mi)) post) args s (mt_mc (mv_r mi)) (mt_ms (mv_r mi)) (mg_A G)) (F0 m pc ls (st.map (mv_ct G)))
/-- what is to be shown from a place on, up to the next cuts -/
def mv_vc (G : mv_G) (mi n0 s0 : Nat) (cuts : List (Nat × List Nat)) (post : Option mv_V → mv_SH → mv_Mem → Prop) : Nat → Bool → List mv_E → mv_L → List mv_V → mv_SH → mv_Mem → Prop
  | 0, _, _, _, _, _, _ => False
  | _ + 1, _, [], _, _, _, _ => False
  | n + 1, f, e :: r, L, st, sh, M => match (if f = true then none else mv_cut e.1 cuts) with
    | some ks => mv_Run G mi n0 s0 e.1 (mv_pk ks L) st sh M post
    | none => mv_body (mv_Wp G) (mv_vc G mi n0 s0 cuts post n false r) (fun t => mv_vc G mi n0 s0 cuts post n false (mv_at t (mt_code (mv_r mi)))) post n0 s0 (mt_mc (mv_r mi)) (mt_ms (mv_r mi)) e.2.2.1 e.2.2.2.1 e.2.2.2.2.1 e.2.2.2.2.2.1 e.2.2.2.2.2.2.1 e.2.2.2.2.2.2.2 L st sh M
/-! numbers -/
theorem mv_i32 {x : Int} (h : mv_R32 x) : (Int32.ofInt x).toInt = x := Int32.toInt_ofInt_of_le (by omega) (by omega)
theorem mv_i64 {x : Int} (h : mv_R64 x) : (Int64.ofInt x).toInt = x := Int64.toInt_ofInt_of_le (by omega) (by omega)
theorem mv_r32 (x : Int32) : mv_R32 x.toInt := by
  have h1 := Int32.le_toInt x
  have h2 := Int32.toInt_lt x
  constructor <;> omega
theorem mv_r64 (x : Int64) : mv_R64 x.toInt := by
  have h1 := Int64.le_toInt x
  have h2 := Int64.toInt_lt x
  constructor <;> omega
theorem mv_e32 {x y : Int} (h : mv_R32 x) (h' : mv_R32 y) : Int32.ofInt x = Int32.ofInt y ↔ x = y := by
  rw [← Int32.toInt_inj, mv_i32 h, mv_i32 h']
theorem mv_l32 {x y : Int} (h : mv_R32 x) (h' : mv_R32 y) : Int32.ofInt x < Int32.ofInt y ↔ x < y := by
  rw [Int32.lt_iff_toInt_lt, mv_i32 h, mv_i32 h']
theorem mv_le32 {x y : Int} (h : mv_R32 x) (h' : mv_R32 y) : Int32.ofInt x ≤ Int32.ofInt y ↔ x ≤ y := by
  rw [Int32.le_iff_toInt_le, mv_i32 h, mv_i32 h']
theorem mv_e64 {x y : Int} (h : mv_R64 x) (h' : mv_R64 y) : Int64.ofInt x = Int64.ofInt y ↔ x = y := by
  rw [← Int64.toInt_inj, mv_i64 h, mv_i64 h']
theorem mv_l64 {x y : Int} (h : mv_R64 x) (h' : mv_R64 y) : Int64.ofInt x < Int64.ofInt y ↔ x < y := by
  rw [Int64.lt_iff_toInt_lt, mv_i64 h, mv_i64 h']
theorem mv_z32 : mv_R32 0 := by constructor <;> omega
theorem mv_z64 : mv_R64 0 := by constructor <;> omega
theorem mv_clamp {i : Int} (h : mv_R32 i) : (Int32.ofInt i).toNatClampNeg = i.toNat := by
  show (Int32.ofInt i).toInt.toNat = i.toNat
  rw [mv_i32 h]
theorem mv_vin {i : Int} {n : Nat} (h : mv_R32 i) (h0 : 0 ≤ i ∧ i < (n : Int)) : vp_in (Int32.ofInt i) n := by
  rw [vp_in_iff, mv_i32 h]
  exact h0
theorem mv_tmR {x y lo : Int} (h : -lo ≤ x ∧ x ≤ lo) : -lo ≤ x.tmod y ∧ x.tmod y ≤ lo := by
  have h1 : (x.tmod y).natAbs ≤ x.natAbs := by
    rw [Int.natAbs_tmod]
    exact Nat.mod_le _ _
  omega
/-! the stack, the locals -/
theorem mv_pi_s {st : List mv_V} {k : Int → List mv_V → Prop} (h : mv_pi st k) : ∃ x r, st = .inl x :: r ∧ k x r := by
  unfold mv_pi at h
  split at h
  · exact ⟨_, _, rfl, h⟩
  · exact h.elim
theorem mv_pl_s {st : List mv_V} {k : Int → List mv_V → Prop} (h : mv_pl st k) : ∃ x r, st = .inr (.inl x) :: r ∧ k x r := by
  unfold mv_pl at h
  split at h
  · exact ⟨_, _, rfl, h⟩
  · exact h.elim
theorem mv_pr_s {st : List mv_V} {k : Nat → List mv_V → Prop} (h : mv_pr st k) : ∃ x r, st = .inr (.inr x) :: r ∧ k x r := by
  unfold mv_pr at h
  split at h
  · exact ⟨_, _, rfl, h⟩
  · exact h.elim
theorem mv_lg_mem {a : Nat} {v : mv_V} : ∀ {L : mv_L}, mv_lg a L = some v → (a, v) ∈ L
  | [], h => by cases h
  | q :: r, h => by
    unfold mv_lg at h
    split at h
    · rename_i hq
      cases h
      subst hq
      exact List.mem_cons_self
    · exact List.mem_cons_of_mem _ (mv_lg_mem h)
theorem mv_lg_at {G : mv_G} {a nL : Nat} {v : mv_V} {L : mv_L} {ls : Array Slot} (hl : lv_has ls nL (L.map (fun q => (q.1, mv_ct G q.2)))) (h : mv_lg a L = some v) : ls[a]? = some (.val (mv_ct G v)) :=
  hl.2.2 (a, mv_ct G v) (List.mem_map.mpr ⟨(a, v), mv_lg_mem h, rfl⟩)
theorem mv_lg_pos {G : mv_G} {a : Nat} {v : mv_V} {L : mv_L} (h : mv_lg a L = some v) : ∃ k : Nat, (L.map (fun q => (q.1, mv_ct G q.2)))[k]? = some (a, mv_ct G v) := by
  obtain ⟨k, hk⟩ := List.getElem?_of_mem (mv_lg_mem h)
  exact ⟨k, by rw [List.getElem?_map, hk]; rfl⟩
theorem mv_cat_e (G : mv_G) (v : mv_V) : ((mv_ct G v).category == 2) = mv_isL v := by
  obtain x | x | x := v <;> rfl
theorem mv_st1_m (G : mv_G) (a : Nat) (v : mv_V) (L : mv_L) : (a, mv_ct G v) :: (L.map (fun q => (q.1, mv_ct G q.2))).filter (fun q => !(q.1 == a) && !(q.1 + 1 == a && q.2.category == 2)) = (mv_st1 a v L).map (fun q => (q.1, mv_ct G q.2)) := by
  unfold mv_st1
  rw [List.map_cons, List.filter_map]
  congr 3
  funext q
  show (!(q.1 == a) && !(q.1 + 1 == a && (mv_ct G q.2).category == 2)) = _
  rw [mv_cat_e]
theorem mv_st2_m (G : mv_G) (a : Nat) (x : Int) (L : mv_L) : (a, mv_ct G (.inr (.inl x))) :: (L.map (fun q => (q.1, mv_ct G q.2))).filter (fun q => !(q.1 == a) && (!(q.1 == a + 1) && !(q.1 + 1 == a && q.2.category == 2))) = (mv_st2 a x L).map (fun q => (q.1, mv_ct G q.2)) := by
  unfold mv_st2
  rw [List.map_cons, List.filter_map]
  congr 3
  funext q
  show (!(q.1 == a) && (!(q.1 == a + 1) && !(q.1 + 1 == a && (mv_ct G q.2).category == 2))) = _
  rw [mv_cat_e]
theorem mv_st1_o {a : Nat} {v : mv_V} {L : mv_L} (hL : ∀ q ∈ L, mv_ov q.2) (hv : mv_ov v) : ∀ q ∈ mv_st1 a v L, mv_ov q.2 := by
  intro q hq
  rcases List.mem_cons.mp hq with rfl | hq
  · exact hv
  · exact hL q (List.mem_filter.mp hq).1
theorem mv_st2_o {a : Nat} {x : Int} {L : mv_L} (hL : ∀ q ∈ L, mv_ov q.2) (hv : mv_R64 x) : ∀ q ∈ mv_st2 a x L, mv_ov q.2 := by
  intro q hq
  rcases List.mem_cons.mp hq with rfl | hq
  · exact hv
  · exact hL q (List.mem_filter.mp hq).1
theorem mv_lg_o {a : Nat} {v : mv_V} {L : mv_L} (hL : ∀ q ∈ L, mv_ov q.2) (h : mv_lg a L = some v) : mv_ov v := hL _ (mv_lg_mem h)
theorem mv_stw_e (G : mv_G) (st : List mv_V) : ((st.map (mv_ct G)).map fun v => v.category).sum = mv_stw st := by
  unfold mv_stw
  rw [List.map_map]
  congr 1
  apply List.map_congr_left
  intro v _
  obtain x | x | x := v <;> rfl
/-! the world -/
theorem mv_ws_get {G : mv_G} {sh : mv_SH} {M : mv_Mem} {k : Nat} (h1 : 1 ≤ k) (h2 : k ≤ sh.1) : (mv_ws G sh M)[k - 1]? = some (mv_ad G k, mv_ce G sh M k) := by
  unfold mv_ws mv_ad
  rw [List.getElem?_map, List.getElem?_range (by omega), if_neg (by omega)]
  show some (_, mv_ce G sh M (k - 1 + 1)) = _
  rw [show k - 1 + 1 = k by omega]
theorem mv_ws_set {G : mv_G} {sh sh' : mv_SH} {M M' : mv_Mem} {k : Nat} {e : va_E} (h1 : 1 ≤ k) (h2 : k ≤ sh.1) (hs : sh'.1 = sh.1) (he : mv_ce G sh' M' k = e) (ho : ∀ j, j ≠ k → mv_ce G sh' M' j = mv_ce G sh M j) : (mv_ws G sh M).set (k - 1) (mv_ad G k, e) = mv_ws G sh' M' := by
  apply List.ext_getElem?
  intro j
  unfold mv_ws mv_ad
  rw [List.getElem?_set, hs, List.getElem?_map, List.length_map, List.length_range, if_neg (show ¬ k = 0 by omega)]
  by_cases hj : k - 1 = j
  · subst hj
    rw [if_pos rfl, if_pos (by omega), List.getElem?_map, List.getElem?_range (by omega)]
    show _ = some (_, mv_ce G sh' M' (k - 1 + 1))
    rw [show k - 1 + 1 = k by omega, he]
  · rw [if_neg hj, List.getElem?_map]
    by_cases hl : j < sh.1
    · rw [List.getElem?_range hl]
      show some (mg_a G (j + 1), mv_ce G sh M (j + 1)) = some (mg_a G (j + 1), mv_ce G sh' M' (j + 1))
      rw [ho (j + 1) (by omega)]
    · rw [List.getElem?_eq_none (by simp; omega)]
      rfl
theorem mv_ws_push {G : mv_G} {sh sh' : mv_SH} {M M' : mv_Mem} {e : va_E} (hs : sh'.1 = sh.1 + 1) (he : mv_ce G sh' M' (sh.1 + 1) = e) (ho : ∀ j, j ≠ sh.1 + 1 → mv_ce G sh' M' j = mv_ce G sh M j) : mv_ws G sh M ++ [(mg_a G (sh.1 + 1), e)] = mv_ws G sh' M' := by
  unfold mv_ws
  rw [hs, List.range_succ, List.map_append, List.map_cons, List.map_nil, he]
  congr 1
  apply List.map_congr_left
  intro j hj
  have := List.mem_range.mp hj
  rw [ho (j + 1) (by omega)]
theorem mv_ce_c {G : mv_G} {sh sh' : mv_SH} {M M' : mv_Mem} {k : Nat} (h1 : sh'.2.2.1 k = sh.2.2.1 k) (h2 : sh'.2.2.2.1 k = sh.2.2.2.1 k) (h3 : ∀ f, sh'.2.2.2.2 k f = sh.2.2.2.2 k f) (h4 : ∀ i, M' k i = M k i) : mv_ce G sh' M' k = mv_ce G sh M k := by
  unfold mv_ce
  rw [h1, h2]
  have e1 : (fun i => Int32.ofInt (M' k i)) = (fun i => Int32.ofInt (M k i)) := funext fun i => by rw [h4 i]
  have e2 : (fun i => Int64.ofInt (M' k i)) = (fun i => Int64.ofInt (M k i)) := funext fun i => by rw [h4 i]
  have e3 : mv_fv G sh' M' (sh.2.2.1 k) k = mv_fv G sh M (sh.2.2.1 k) k := funext fun f => by unfold mv_fv; rw [h3 f, h4 f]
  rw [e1, e2, e3]
theorem mv_up_ne {M : mv_Mem} {a j k : Nat} {x : Int} (h : k ≠ a) (i : Nat) : mv_up M a j x k i = M k i := by
  unfold mv_up
  rw [if_neg (fun q => h q.1)]
theorem mv_up_f {M : mv_Mem} {a j : Nat} {x : Int} (g : Int → Int32) : (fun i => g (mv_up M a j x a i)) = upd (fun i => g (M a i)) j (g x) := by
  funext i
  unfold mv_up upd
  by_cases h : i = j
  · rw [if_pos ⟨rfl, h⟩, if_pos h]
  · rw [if_neg (fun q => h q.2), if_neg h]
theorem mv_up_fl {M : mv_Mem} {a j : Nat} {x : Int} (g : Int → Int64) : (fun i => g (mv_up M a j x a i)) = vp_updL (fun i => g (M a i)) j (g x) := by
  funext i
  unfold mv_up vp_updL
  by_cases h : i = j
  · rw [if_pos ⟨rfl, h⟩, if_pos h]
  · rw [if_neg (fun q => h q.2), if_neg h]
theorem mv_nm_up {G : mv_G} {sh : mv_SH} {M : mv_Mem} {k j : Nat} {x : Int} (h : mv_Nm G sh M) (hk : 1 ≤ k) (hx : mv_R64 x ∧ (sh.2.2.1 k ≠ 101 → mv_R32 x)) : mv_Nm G sh (mv_up M k j x) := by
  obtain ⟨⟨a1, a2, a3⟩, a4, a5⟩ := h
  refine ⟨⟨a1, a2, fun i => by rw [mv_up_ne (by omega)]; exact a3 i⟩, fun k' i => ?_, a5⟩
  unfold mv_up
  split
  · rename_i hq
    rw [hq.1]
    exact hx
  · exact a4 k' i
theorem mv_R6 {x : Int} (h : mv_R32 x) : mv_R64 x := by omega
theorem mv_sz {p : Program} {l : Launch} {e : Env} {R : Room} {s : State} {m : MethodId} {args : Array Value} {below : List Frame} {meth : Method} {c : Code} {H : Heap} {locs : List Loc} {cells slots : Nat} {Q : State → Prop} {g : JFrame}
    (k : H.size ≤ s.heap.size + cells → W p l e R s m args below meth c H locs cells slots Q g) : W p l e R s m args below meth c H locs cells slots Q g := fun T hT X => k (hT ▸ X.heapSize) T hT X
theorem mv_low {G : mv_G} {sh : mv_SH} {M : mv_Mem} {H H0 : Heap} {locs : List Loc} {n0 : Nat} (hW : mv_Wd G sh M H) (hS : va_S (mg_A G) H0 H locs) (h0 : mv_hp G n0 H0.size) (hn : n0 ≤ sh.1) : H0.size + (sh.1 - n0) ≤ H.size := by
  by_cases hz : sh.1 = n0
  · have := hS.1
    omega
  · have h := (hW.1 (sh.1 - 1) _ (mv_ws_get (k := sh.1) (by omega) (Nat.le_refl _))).lt
    have e : mv_ad G sh.1 = H0.size + (sh.1 - n0 - 1) := by
      unfold mv_ad
      rw [if_neg (by omega), ← h0 (sh.1 - n0 - 1), show n0 + 1 + (sh.1 - n0 - 1) = sh.1 by omega]
    have h' : mv_ad G sh.1 < H.size := h
    omega
theorem mv_hA {G : mv_G} {n z q : Nat} (h0 : mv_hp G n z) (h : z ≤ q) : mg_A G q := ⟨n + 1 + (q - z), by omega, by rw [h0]; omega⟩
theorem mw_0 : ∀ w ∈ u_ws RX0 TX0 13, w ∈ mv_tbl := by
  have h : (u_ws RX0 TX0 13).all (fun w => decide (w ∈ lw_tbl) && mv_gd w) = true := by decide +kernel
  intro w hw
  have h1 := List.all_eq_true.mp h w hw
  simp only [Bool.and_eq_true, decide_eq_true_eq] at h1
  exact List.mem_filter.mpr h1
theorem mw_1 : ∀ w ∈ u_ws RX1 TX1 8, w ∈ mv_tbl := by
  have h : (u_ws RX1 TX1 8).all (fun w => decide (w ∈ lw_tbl) && mv_gd w) = true := by decide +kernel
  intro w hw
  have h1 := List.all_eq_true.mp h w hw
  simp only [Bool.and_eq_true, decide_eq_true_eq] at h1
  exact List.mem_filter.mpr h1
theorem mw_2 : ∀ w ∈ u_ws RX2 TX2 5, w ∈ mv_tbl := by
  have h : (u_ws RX2 TX2 5).all (fun w => decide (w ∈ lw_tbl) && mv_gd w) = true := by decide +kernel
  intro w hw
  have h1 := List.all_eq_true.mp h w hw
  simp only [Bool.and_eq_true, decide_eq_true_eq] at h1
  exact List.mem_filter.mpr h1
theorem mw_3 : ∀ w ∈ u_ws RX3 TX3 9, w ∈ mv_tbl := by
  have h : (u_ws RX3 TX3 9).all (fun w => decide (w ∈ lw_tbl) && mv_gd w) = true := by decide +kernel
  intro w hw
  have h1 := List.all_eq_true.mp h w hw
  simp only [Bool.and_eq_true, decide_eq_true_eq] at h1
  exact List.mem_filter.mpr h1
theorem mw_4 : ∀ w ∈ u_ws RX4 TX4 2, w ∈ mv_tbl := by
  have h : (u_ws RX4 TX4 2).all (fun w => decide (w ∈ lw_tbl) && mv_gd w) = true := by decide +kernel
  intro w hw
  have h1 := List.all_eq_true.mp h w hw
  simp only [Bool.and_eq_true, decide_eq_true_eq] at h1
  exact List.mem_filter.mpr h1
theorem mw_5 : ∀ w ∈ u_ws RX5 TX5 2, w ∈ mv_tbl := by
  have h : (u_ws RX5 TX5 2).all (fun w => decide (w ∈ lw_tbl) && mv_gd w) = true := by decide +kernel
  intro w hw
  have h1 := List.all_eq_true.mp h w hw
  simp only [Bool.and_eq_true, decide_eq_true_eq] at h1
  exact List.mem_filter.mpr h1
theorem mw_6 : ∀ w ∈ u_ws RX6 TX6 4, w ∈ mv_tbl := by
  have h : (u_ws RX6 TX6 4).all (fun w => decide (w ∈ lw_tbl) && mv_gd w) = true := by decide +kernel
  intro w hw
  have h1 := List.all_eq_true.mp h w hw
  simp only [Bool.and_eq_true, decide_eq_true_eq] at h1
  exact List.mem_filter.mpr h1
theorem mw_7 : ∀ w ∈ u_ws RX7 TX7 14, w ∈ mv_tbl := by
  have h : (u_ws RX7 TX7 14).all (fun w => decide (w ∈ lw_tbl) && mv_gd w) = true := by decide +kernel
  intro w hw
  have h1 := List.all_eq_true.mp h w hw
  simp only [Bool.and_eq_true, decide_eq_true_eq] at h1
  exact List.mem_filter.mpr h1
theorem mw_8 : ∀ w ∈ u_ws RX8 TX8 6, w ∈ mv_tbl := by
  have h : (u_ws RX8 TX8 6).all (fun w => decide (w ∈ lw_tbl) && mv_gd w) = true := by decide +kernel
  intro w hw
  have h1 := List.all_eq_true.mp h w hw
  simp only [Bool.and_eq_true, decide_eq_true_eq] at h1
  exact List.mem_filter.mpr h1
theorem mw_9 : ∀ w ∈ u_ws RX9 TX9 1, w ∈ mv_tbl := by
  have h : (u_ws RX9 TX9 1).all (fun w => decide (w ∈ lw_tbl) && mv_gd w) = true := by decide +kernel
  intro w hw
  have h1 := List.all_eq_true.mp h w hw
  simp only [Bool.and_eq_true, decide_eq_true_eq] at h1
  exact List.mem_filter.mpr h1
theorem mw_10 : ∀ w ∈ u_ws RX10 TX10 3, w ∈ mv_tbl := by
  have h : (u_ws RX10 TX10 3).all (fun w => decide (w ∈ lw_tbl) && mv_gd w) = true := by decide +kernel
  intro w hw
  have h1 := List.all_eq_true.mp h w hw
  simp only [Bool.and_eq_true, decide_eq_true_eq] at h1
  exact List.mem_filter.mpr h1
theorem mw_11 : ∀ w ∈ u_ws RX11 TX11 13, w ∈ mv_tbl := by
  have h : (u_ws RX11 TX11 13).all (fun w => decide (w ∈ lw_tbl) && mv_gd w) = true := by decide +kernel
  intro w hw
  have h1 := List.all_eq_true.mp h w hw
  simp only [Bool.and_eq_true, decide_eq_true_eq] at h1
  exact List.mem_filter.mpr h1
/-- the class table's facts, by its places -/
theorem mv_cls {ci N : Nat} {C : String} {T : u_T} (h : vwCl[ci]? = some (C, T, N)) : (∀ w ∈ u_ws C T N, w ∈ mv_tbl) ∧ (∀ k, k < N → parseFieldDescriptor (T k).2.2.1 = some (mv_ty ci k)) ∧ (∀ a, a < N → ∀ b, b < N → a ≠ b → (T a).2.1 ≠ (T b).2.1) ∧ mv_nf ci = N ∧ ci < 100 := by
  have hl : ci < 12 := (List.getElem?_eq_some_iff.mp h).1
  match ci, hl, h with
  | 0, _, h => cases h; exact ⟨mw_0, tyX0_ok, nmX0, rfl, by omega⟩
  | 1, _, h => cases h; exact ⟨mw_1, tyX1_ok, nmX1, rfl, by omega⟩
  | 2, _, h => cases h; exact ⟨mw_2, tyX2_ok, nmX2, rfl, by omega⟩
  | 3, _, h => cases h; exact ⟨mw_3, tyX3_ok, nmX3, rfl, by omega⟩
  | 4, _, h => cases h; exact ⟨mw_4, tyX4_ok, nmX4, rfl, by omega⟩
  | 5, _, h => cases h; exact ⟨mw_5, tyX5_ok, nmX5, rfl, by omega⟩
  | 6, _, h => cases h; exact ⟨mw_6, tyX6_ok, nmX6, rfl, by omega⟩
  | 7, _, h => cases h; exact ⟨mw_7, tyX7_ok, nmX7, rfl, by omega⟩
  | 8, _, h => cases h; exact ⟨mw_8, tyX8_ok, nmX8, rfl, by omega⟩
  | 9, _, h => cases h; exact ⟨mw_9, tyX9_ok, nmX9, rfl, by omega⟩
  | 10, _, h => cases h; exact ⟨mw_10, tyX10_ok, nmX10, rfl, by omega⟩
  | 11, _, h => cases h; exact ⟨mw_11, tyX11_ok, nmX11, rfl, by omega⟩
  | n + 12, hl, _ => omega
