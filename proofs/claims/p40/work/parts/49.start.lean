/-! FROM THE LAW's ENTRY ON (its definitions and its end began as the kit's printed text) -/
def R_law : String := "MarketRingsLaw"
def lw_P (b : Addr) (xs : List Int32) (args : Array Value) (s : State) : Prop := args = #[.ref b] ∧ s.IntsAt b xs ∧ xs.length ≤ 260 ∧ (Jvm.Cond.and given_1 narrow_1).before args s = true
def lw_Q (_ : Array Value) (s : State) (o : Outcome) (t : State) : Prop := o = .returned (some (.int 1)) ∧ Framed s o t [] 600000 7302250
def lw_Z (below : List Frame) (a : Array Value) (s : State) : State → Prop := fun t => ∃ o, t.status = .running ∧ Ended t below o ∧ lw_Q a s o t
/-- what holds at the law's entry: the machine, the code, the tables' words (any of lw_tbl by 'hts w (by decide +kernel)'), the script of L ints xs at the cell b, what the Statement gives of the start (any of its parts by flat_of_before) -/
def lw_At (p : Program) (s : State) (m : MethodId) (meth : Method) (c : Code) (b L : Nat) (xs : Nat → Int32) : Prop :=
  p.tables.exec = Jvm.exec ∧ c.code = code ∧ meth.sig.returnType = ret ∧ c.maxLocals = 19 ∧ s.vm.findClass R_law = some m.cls ∧ (∀ w ∈ lw_tbl, w.before #[Value.ref b] s = true) ∧ va_X b L xs s s.heap ∧ b < s.heap.size ∧ meth.locks = false ∧ (Jvm.Cond.and given_1 narrow_1).before #[Value.ref b] s = true
/-- less room stands where more does -/
theorem lw_room {s : State} {pl : Platform} {r r' : Room} (h : s.hasRoom pl r = true) (h1 : r'.frames ≤ r.frames) (h2 : r'.cells ≤ r.cells) (h3 : r'.slots ≤ r.slots) (h4 : r'.locals ≤ r.locals) : s.hasRoom pl r' = true := by
  unfold State.hasRoom at h ⊢
  simp only [Bool.and_eq_true, decide_eq_true_eq] at h ⊢
  obtain ⟨⟨⟨⟨a, b1, b2, b3, b4, b5⟩, c⟩, d⟩, e⟩ := h
  exact ⟨⟨⟨⟨by omega, by omega, by omega, by omega, by omega, b5⟩, by omega⟩, by omega⟩, e⟩
theorem lw_getD {l : List Nat} {n : Nat} (h : ∀ x ∈ l, x ≤ n) (k : Nat) : l.getD k 0 ≤ n := by
  rw [List.getD_eq_getElem?_getD]
  cases e : l[k]? with
  | none => exact Nat.zero_le _
  | some y => exact h y (List.mem_of_getElem? e)
/-- the first cells -/
def lw_M (xs : Nat → Int32) : mv_Mem := fun k j => if k = 0 then (xs j).toInt else 0
theorem lw_MZ (xs : Nat → Int32) : cz 0 (lw_M xs) := fun a i h => if_neg (by omega)
theorem lw_Mr (xs : Nat → Int32) (k i : Nat) : mv_R32 (lw_M xs k i) := by
  unfold lw_M
  split
  · exact mv_r32 _
  · exact ⟨by decide, by decide⟩
theorem lw_Nm (G : mv_G) {L : Nat} {xs : Nat → Int32} (hL : L ≤ 260) (h1 : mg_L G = L) (h2 : ∀ i, mg_X G i = (xs i).toInt) : mv_Nm G (0, 0, mh_t, mh_l L, fun _ _ => 0) (lw_M xs) := by
  refine ⟨⟨rfl, h1.symm, fun i => (h2 i).symm⟩, fun k i => ?_, fun k => ?_⟩
  · have h := lw_Mr xs k i
    exact ⟨⟨by omega, by omega⟩, fun _ => h⟩
  · show mh_l L k ≤ 100000
    unfold mh_l
    split
    · omega
    · exact lw_getD (by decide +kernel) k
/-- the small machine's run of the law -/
theorem lw_all (G : mv_G) {L : Nat} {xs : Nat → Int32} (hL : L ≤ 260) : mv_Run G 226 0 0 0 [(0, .inr (.inr 0))] [] (0, 0, mh_t, mh_l L, fun _ _ => 0) (lw_M xs) (fun r _ _ => r = some (.inl 1)) :=
  lw_0 (lw_MZ xs) (mv_mono (cl_ctor (F := fun M => sg_CC sg_0 M) (lw_MZ xs) (fun M h => sg_0_CC h)) (fun r sh M q => by
    obtain ⟨rfl, rfl, hq⟩ := q
    exact lw_law (fun _ _ => rfl) hq))
set_option maxHeartbeats 4000000 in
set_option maxRecDepth 100000 in
/-- THE LAW, from its entry -/
theorem whole_start {p : Program} {e : Env} {s : State} {m : MethodId} {below : List Frame} {meth : Method} {c : Code} (l : Launch) {b L : Nat} {xs : Nat → Int32} (hL : L ≤ 260) (C0 : lw_At p s m meth c b L xs) (hname : meth.name = x.name) : W p l e room_1 s m #[Value.ref b] below meth c s.heap [] 0 0 (lw_Z below #[Value.ref b] s) (entryFrame m ([Value.ref b] : List Value).toArray 19) := by
  obtain ⟨hx, hb, hr, hml, hown, hts, hX, hbl, hlocks, hgv⟩ := id C0
  have hmt : ∀ w ∈ mv_tbl, w.before #[Value.ref b] s = true := fun w hw => hts w (List.mem_filter.mp hw).1
  obtain ⟨c0, j0, k0⟩ := u_known (C := RX0) (T := TX0) (N := 13) (n := 13) hmt mw_0 (hts (.instantiable RX0 13) (by decide +kernel))
  obtain ⟨c1, j1, k1⟩ := u_known (C := RX1) (T := TX1) (N := 8) (n := 8) hmt mw_1 (hts (.instantiable RX1 8) (by decide +kernel))
  obtain ⟨c2, j2, k2⟩ := u_known (C := RX2) (T := TX2) (N := 5) (n := 5) hmt mw_2 (hts (.instantiable RX2 5) (by decide +kernel))
  obtain ⟨c3, j3, k3⟩ := u_known (C := RX3) (T := TX3) (N := 9) (n := 9) hmt mw_3 (hts (.instantiable RX3 9) (by decide +kernel))
  obtain ⟨c4, j4, k4⟩ := u_known (C := RX4) (T := TX4) (N := 2) (n := 2) hmt mw_4 (hts (.instantiable RX4 2) (by decide +kernel))
  obtain ⟨c5, j5, k5⟩ := u_known (C := RX5) (T := TX5) (N := 2) (n := 2) hmt mw_5 (hts (.instantiable RX5 2) (by decide +kernel))
  obtain ⟨c6, j6, k6⟩ := u_known (C := RX6) (T := TX6) (N := 4) (n := 4) hmt mw_6 (hts (.instantiable RX6 4) (by decide +kernel))
  obtain ⟨c7, j7, k7⟩ := u_known (C := RX7) (T := TX7) (N := 14) (n := 14) hmt mw_7 (hts (.instantiable RX7 14) (by decide +kernel))
  obtain ⟨c8, j8, k8⟩ := u_known (C := RX8) (T := TX8) (N := 6) (n := 6) hmt mw_8 (hts (.instantiable RX8 6) (by decide +kernel))
  obtain ⟨c9, j9, k9⟩ := u_known (C := RX9) (T := TX9) (N := 1) (n := 1) hmt mw_9 (hts (.instantiable RX9 1) (by decide +kernel))
  obtain ⟨c10, j10, k10⟩ := u_known (C := RX10) (T := TX10) (N := 3) (n := 3) hmt mw_10 (hts (.instantiable RX10 3) (by decide +kernel))
  obtain ⟨c11, j11, k11⟩ := u_known (C := RX11) (T := TX11) (N := 13) (n := 13) hmt mw_11 (hts (.instantiable RX11 13) (by decide +kernel))
  obtain ⟨dC, dI, hKc⟩ : ∃ (dC : Nat → ClassId) (dI : Nat → Nat → Nat), ∀ (k : Nat) (q : vw_C), vwCl[k]? = some q → u_Kn s q.1 q.2.1 q.2.2 (dC k) (dI k) := by
    refine ⟨fun k => [c0, c1, c2, c3, c4, c5, c6, c7, c8, c9, c10, c11].getD k c0, fun k => [j0, j1, j2, j3, j4, j5, j6, j7, j8, j9, j10, j11].getD k j0, ?_⟩
    intro k q hq
    match k, hq with
    | 0, hq => cases hq; exact k0
    | 1, hq => cases hq; exact k1
    | 2, hq => cases hq; exact k2
    | 3, hq => cases hq; exact k3
    | 4, hq => cases hq; exact k4
    | 5, hq => cases hq; exact k5
    | 6, hq => cases hq; exact k6
    | 7, hq => cases hq; exact k7
    | 8, hq => cases hq; exact k8
    | 9, hq => cases hq; exact k9
    | 10, hq => cases hq; exact k10
    | 11, hq => cases hq; exact k11
    | k + 12, hq => simp [vwCl] at hq
  obtain ⟨cI, kI, pI, fI, gI, eI⟩ := Cond.arrayClass_spec (hts (.arrayClass .int) (by decide +kernel))
  obtain ⟨cJ, kJ, pJ, fJ, gJ, eJ⟩ := Cond.arrayClass_spec (hts (.arrayClass .long) (by decide +kernel))
  have aI : ArrOfT s cI .int := fun n z => ⟨fun k h => (by cases h), kI, gI, pI, eI⟩
  have aJ : ArrOfT s cJ .long := fun n z => ⟨fun k h => (by cases h), kJ, gJ, pJ, eJ⟩
  have hK : va_K (dC, dI) vwCl [(cI, .int), (cJ, .long)] s := by
    refine ⟨hKc, fun k q hq => ?_⟩
    match k, hq with
    | 0, hq => cases hq; exact ⟨aI, fI⟩
    | 1, hq => cases hq; exact ⟨aJ, fJ⟩
    | k + 2, hq => simp at hq
  have hX2 : va_X b L (fun j => Int32.ofInt ((xs j).toInt)) s s.heap := by
    rw [show (fun j => Int32.ofInt ((xs j).toInt)) = xs from funext fun j => Int32.ofInt_toInt _]
    exact hX
  obtain ⟨G, hG⟩ : ∃ G : mv_G, G = (l, b, (fun k => s.heap.size + (k - 1)), dC, dI, cI, cJ, cI, L, fun j => (xs j).toInt) := ⟨_, rfl⟩
  have C : mv_Cx G 226 0 p s m #[Value.ref b] meth c := by
    subst hG
    refine ⟨hx, hb, hml, hown, hmt, hr, hlocks, hname, fun j => ?_, hX2, ⟨hbl, fun ⟨k, z1, z2⟩ => ?_⟩, hK⟩
    · show s.heap.size + (0 + 1 + j - 1) = s.heap.size + j
      omega
    · have z2 : b = s.heap.size + (k - 1) := z2
      omega
  have hl := lv_entry ([.ref b]) (n := 19) (Nat.le_of_ble_eq_true rfl)
  rw [lg_entry_eq]
  generalize (lg_sl ([.ref b]) ++ List.replicate (19 - (lg_sl ([.ref b])).length) Slot.unset).toArray = ls at hl ⊢
  have hl : lv_has ls 19 [(0, .ref b)] := hl
  have hl2 : lv_has ls (mt_nL (mv_r 226)) ([(0, (.inr (.inr 0) : mv_V))].map (fun q => (q.1, mv_ct G q.2))) := by
    subst hG
    exact hl
  have hWd : mv_Wd G (0, 0, mh_t, mh_l L, fun _ _ => 0) (lw_M xs) s.heap := by
    refine ⟨fun k q h => ?_, ⟨fun i j p q h => ?_, fun k q h => ?_⟩, lw_Nm G hL (by rw [hG]; rfl) (fun i => by rw [hG]; rfl)⟩
    · have h : (([] : va_W))[k]? = some q := h
      simp at h
    · have h : (([] : va_W))[i]? = some p := h
      simp at h
    · have h : (([] : va_W))[k]? = some q := h
      simp at h
  have K := lw_all G (xs := xs) hL p e s m #[Value.ref b] below meth c s.heap [] ls C hl2 (fun q hq => by
    rcases List.mem_singleton.mp hq with rfl
    trivial) (fun _ h => by cases h) hWd va_S.rf ⟨Nat.le_refl _, Nat.le_add_right _ _⟩ ⟨Nat.le_refl _, Nat.le_add_right _ _⟩
  have eA : ∀ q, mg_A G q → s.heap.size ≤ q := fun q h => by
    rw [hG] at h
    obtain ⟨k, -, h2⟩ := h
    have h2 : q = s.heap.size + (k - 1) := h2
    omega
  have el : mg_l G = l := by rw [hG]; rfl
  rw [el] at K
  intro T hT X
  have X2 : Stand p l e (mt_rm (mv_r 226)) s m #[Value.ref b] below meth c T [] 0 0 := { X with room := lw_room X.room (by decide +kernel) (by decide +kernel) (by decide +kernel) (by decide +kernel) }
  obtain ⟨t, h1, o, h2, h3, ⟨⟨r, sh, M, h4, h5, h6, h7⟩, h8⟩, LL, h9, h10⟩ := K T hT X2
  refine ⟨t, h1, o, h2, h3, ?_, h9.1, h9.2.1, h9.2.2.weaken (fun y hy hlt => absurd hlt (Nat.not_lt.mpr (eA _ (h10 y hy)))) (by decide +kernel) (by decide +kernel)⟩
  rw [h4, h6]
  rfl
