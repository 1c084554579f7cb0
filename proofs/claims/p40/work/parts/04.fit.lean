/-! WHAT A PROGRAM DECIDES OF THE CODE LISTS: that they are the methods' bytes, and that the tables have the words which they need -/
def mv_gd : Jvm.Cond → Bool
  | .methodLinkNest _ _ _ _ => true
  | w => goodWord w
def mv_tbl : List Jvm.Cond := lw_tbl.filter mv_gd
def mv_hw (ts : List Nat) (k : Nat) (w : Jvm.Cond) : Bool := decide ((ts[k]?).bind (fun i => lw_tbl[i]?) = some w) && mv_gd w
theorem mv_hw_mem {ts : List Nat} {k : Nat} {w : Jvm.Cond} (h : mv_hw ts k w = true) : w ∈ mv_tbl := by
  unfold mv_hw at h
  simp only [Bool.and_eq_true, decide_eq_true_eq] at h
  obtain ⟨h1, h2⟩ := h
  cases ht : ts[k]? with
  | none => rw [ht] at h1; cases h1
  | some i =>
    rw [ht] at h1
    exact List.mem_filter.mpr ⟨List.mem_of_getElem? h1, h2⟩
def mv_tys : List (Nat → FieldType) := [tyX0, tyX1, tyX2, tyX3, tyX4, tyX5, tyX6, tyX7, tyX8, tyX9, tyX10, tyX11]
def mv_ty (ci k : Nat) : FieldType := (mv_tys.getD ci tyX0) k
def mv_kd (ci k : Nat) : Nat := match mv_ty ci k with
  | .int => 0
  | .boolean => 1
  | .object _ => 2
  | .array _ => 2
  | _ => 3
def mv_nf (ci : Nat) : Nat := ((vwCl[ci]?).map (fun q => q.2.2)).getD 0
def mv_tg (ty : ArrayType) : Nat := match ty with
  | .int => 100
  | .long => 101
  | .boolean => 102
  | _ => 0
/-- a link of a call: plain, or to a nest mate's private method -/
def mv_lk (ts : List Nat) (own : String) (idx : Nat) (y : MethodName) : Bool :=
  mv_hw ts 0 (.methodLink own idx y) || (match ((ts[0]?).bind (fun i => lw_tbl[i]?) : Option Jvm.Cond) with
    | some (.methodLinkNest o j z _) => decide (o = own) && (decide (j = idx) && decide (z = y))
    | _ => false)
def mv_cl (r q : mv_T) (n : Nat) : Bool :=
  decide ((mt_y q).cls ≠ "java/lang/invoke/MethodHandle" ∧ (mt_y q).cls ≠ "java/lang/invoke/VarHandle") && (decide ((parseMethodDescriptor (mt_y q).desc).map (fun d => d.parameters.length) = some n) &&
    (Nat.ble (mt_fr q + 1) (mt_fr r) && (Nat.ble (8 + (mt_nL q + 11) + mt_lo q) (mt_lo r) && Nat.blt (mt_mc q) 150)))
def mv_fl (r : mv_T) (idx a b c : Nat) (ts : List Nat) : Bool := match vwCl[a]? with
  | some (_, T, N) => Nat.blt b N && (mv_hw ts 0 (.fieldLink (mt_own r) idx (T b).1 (T b).2.1 (T b).2.2.1) && decide (c = mv_kd a b))
  | none => false
def mv_fit (r : mv_T) (pc ln : Nat) (ni : Instr) (a b c : Nat) (v : Int) (ts : List Nat) (i : Instr) : Bool := match ni with
  | .iconst _ => decide (mv_R32 v) && (match i with
    | .iconst n => decide (ln = 1) && decide (Int32.ofInt n = Int32.ofInt v)
    | .bipush n => decide (ln = 2) && decide ((Int8.ofInt n).toInt32 = Int32.ofInt v)
    | .sipush n => decide (ln = 3) && decide ((Int16.ofInt n).toInt32 = Int32.ofInt v)
    | .ldc idx => decide (ln = 2) && mv_hw ts 0 (.constant (mt_own r) idx (Int32.ofInt v))
    | .ldc_w idx => decide (ln = 3) && mv_hw ts 0 (.constant (mt_own r) idx (Int32.ofInt v))
    | _ => false)
  | .lconst _ => decide (mv_R64 v) && (match i with
    | .lconst n => decide (ln = 1) && decide (Int64.ofNat (n : Nat) = Int64.ofInt v)
    | .ldc2_w idx => decide (ln = 3) && mv_hw ts 0 (.constantLong (mt_own r) idx (Int64.ofInt v))
    | _ => false)
  | .iload _ => (match i with
    | .iload_n k => decide (ln = 1) && decide ((k : Nat) = a)
    | .iload k => decide (ln = 2) && decide (k = a)
    | _ => false)
  | .lload _ => (match i with
    | .lload_n k => decide (ln = 1) && decide ((k : Nat) = a)
    | .lload k => decide (ln = 2) && decide (k = a)
    | _ => false)
  | .aload _ => (match i with
    | .aload_n k => decide (ln = 1) && decide ((k : Nat) = a)
    | .aload k => decide (ln = 2) && decide (k = a)
    | _ => false)
  | .istore _ => Nat.blt a (mt_nL r) && (match i with
    | .istore_n k => decide (ln = 1) && decide ((k : Nat) = a)
    | .istore k => decide (ln = 2) && decide (k = a)
    | _ => false)
  | .lstore _ => Nat.blt (a + 1) (mt_nL r) && (match i with
    | .lstore_n k => decide (ln = 1) && decide ((k : Nat) = a)
    | .lstore k => decide (ln = 2) && decide (k = a)
    | _ => false)
  | .astore _ => Nat.blt a (mt_nL r) && (match i with
    | .astore_n k => decide (ln = 1) && decide ((k : Nat) = a)
    | .astore k => decide (ln = 2) && decide (k = a)
    | _ => false)
  | .iinc _ _ => Nat.blt a (mt_nL r) && (match i with
    | .iinc k n => decide (ln = 3) && (decide (k = a) && decide (Int32.ofInt n = Int32.ofInt v))
    | _ => false)
  | .goto _ => (match i with
    | .goto off => decide (ln = 3) && decide ((pc : Int) + off = (a : Int))
    | _ => false)
  | .ifCond k _ => (match i with
    | .ifCond k' off => decide (ln = 3) && (decide (k' = k) && decide ((pc : Int) + off = (a : Int)))
    | _ => false)
  | .if_icmp k _ => (match i with
    | .if_icmp k' off => decide (ln = 3) && (decide (k' = k) && decide ((pc : Int) + off = (a : Int)))
    | _ => false)
  | .tableswitch _ _ _ _ => decide (mv_R32 v) && (match i with
    | .tableswitch d lo hi offs => decide ((pc : Int) + d = (a : Int)) && (decide (lo = v) && (decide (hi + 1 = v + (ts.length : Int)) && decide (offs.toList = ts.map (fun t : Nat => (t : Int) - (pc : Int)))))
    | _ => false)
  | .getfield _ => (match i with
    | .getfield idx => decide (ln = 3) && mv_fl r idx a b c ts
    | _ => false)
  | .putfield _ => (match i with
    | .putfield idx => decide (ln = 3) && (mv_fl r idx a b c ts && (match vwCl[a]? with
      | some (_, T, _) => !(T b).2.2.2 || (decide ((mt_y r).name = "<init>") && decide ((T b).1 = mt_own r))
      | none => false))
    | _ => false)
  | .newarray ty => (match i with
    | .newarray ty' => decide (ln = 2) && (decide (ty' = ty) && (mv_hw ts 0 (.arrayClass (newarray.typeOf ty)) && (decide (a = mv_tg ty) && Nat.ble 100 a)))
    | _ => false)
  | .new _ => (match i with
    | .new idx => decide (ln = 3) && (match vwCl[a]? with
      | some (C, _, N) => decide (N = b) && (mv_hw ts 0 (.classLink (mt_own r) idx C) && (mv_hw ts 1 (.instantiable C N) && mv_hw ts 2 (.initialized C)))
      | none => false)
    | _ => false)
  | .invokespecial _ => (match i with
    | .invokespecial idx => decide (ln = 3) && (if c = 1 then mv_hw ts 0 (.methodLink (mt_own r) idx objectInit) && (mv_hw ts 1 (.instanceMethod objectInit) && (mv_hw ts 2 (.code objectInit ⟨#[0xb1]⟩ 1 none) && (Nat.ble 1 (mt_fr r) && Nat.ble 20 (mt_lo r))))
      else mv_lk ts (mt_own r) idx (mt_y (mv_r a)) && (mv_hw ts 1 (.instanceMethod (mt_y (mv_r a))) && (mv_hw ts 2 (.initialized (mt_y (mv_r a)).cls) && (decide ((mt_y (mv_r a)).name = "<init>") && (decide (mt_ret (mv_r a) = none) &&
        (decide (c = 2 + mt_mc (mv_r a)) && (decide (v = (mt_ms (mv_r a) : Int)) && (Nat.ble 1 b && mv_cl r (mv_r a) (b - 1)))))))))
    | _ => false)
  | .invokevirtual _ => (match i with
    | .invokevirtual idx => decide (ln = 3) && (mv_hw ts 0 (.methodLink (mt_own r) idx (mt_y (mv_r a))) && (mv_hw ts 1 (.instanceMethod (mt_y (mv_r a))) && (mv_hw ts 2 (.selects (mt_y (mv_r a)).cls (mt_y (mv_r a)) (mt_y (mv_r a))) &&
        (mv_hw ts 3 (.initialized (mt_y (mv_r a)).cls) && (decide ((vwCl[c]?).map (fun q => q.1) = some (mt_y (mv_r a)).cls) && (decide (mt_mc (mv_r a) = 0 ∧ mt_ms (mv_r a) = 0) && (Nat.ble 1 b && mv_cl r (mv_r a) (b - 1))))))))
    | _ => false)
  | .invokestatic _ => (match i with
    | .invokestatic idx => decide (ln = 3) && (if c = 1 then mv_lk ts (mt_own r) idx (mt_y (mv_r a)) && (mv_hw ts 1 (.static (mt_y (mv_r a))) && (mv_hw ts 2 (.initialized (mt_y (mv_r a)).cls) && (decide (mt_mc (mv_r a) = 0 ∧ mt_ms (mv_r a) = 0) && mv_cl r (mv_r a) b)))
      else mv_hw ts 0 (.methodLink (mt_own r) idx arraycopyName) && (mv_hw ts 1 (.native arraycopyName) && (mv_hw ts 2 (.static arraycopyName) && (mv_hw ts 3 (.initialized "java/lang/System") && (decide (c = 100 ∨ c = 101) && (Nat.ble 1 (mt_fr r) && Nat.ble 26 (mt_lo r)))))))
    | _ => false)
  | .ireturn => decide (ln = 1) && (decide (i = .ireturn) && (if a = 1 then decide (mt_ret r = some .boolean) else decide (mt_ret r = some .int)))
  | .lreturn => decide (ln = 1) && (decide (i = .lreturn) && decide (mt_ret r = some .long))
  | .return_ => decide (ln = 1) && (decide (i = .return_) && decide (mt_ret r = none))
  | _ => decide (ln = 1) && decide (i = ni)
def mv_okE (r : mv_T) (e : mv_E) : Bool := match e with
  | (pc, ln, ni, a, b, c, v, ts) => (match decode (mt_cc r) pc with
    | .ok (i, n) => decide (n = ln) && mv_fit r pc ln ni a b c v ts i
    | .error _ => false)
def mv_ch : List mv_E → Bool
  | e :: e' :: r => decide (e.1 + e.2.1 = e'.1) && mv_ch (e' :: r)
  | _ => true
def mv_okM (i : Nat) : Bool := (mt_code (mv_r i)).all (mv_okE (mv_r i)) && mv_ch (mt_code (mv_r i))
/-- the word of a method's own code stands at this place of the tables -/
def mv_okC (i p : Nat) : Bool := plainFor (mt_y (mv_r i)) && (decide (mt_own (mv_r i) = (mt_y (mv_r i)).cls) && mv_hw [p] 0 (.code (mt_y (mv_r i)) (mt_cc (mv_r i)) (mt_nL (mv_r i)) (mt_ret (mv_r i))))
