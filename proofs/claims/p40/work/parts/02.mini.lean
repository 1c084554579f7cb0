/-! A SMALL MACHINE OVER NUMBERS: ints and longs are numbers of Int (a guard asks that they stay in their range), cells have numbers (0: the script), a heap is a function.
What a piece of code must show is a proposition, reckoned by recursion over the code (mv_body: one instruction; mv_vc: up to a cut, a call, an end). -/
/-- a value: an int, a long, a cell's number -/
abbrev mv_V : Type := Int ⊕ (Int ⊕ Nat)
/-- what the cells hold: cell, slot -/
abbrev mv_Mem : Type := Nat → Nat → Int
/-- how many cells there are, how many slots; each cell's tag (class, or 100 ints, 101 longs, 102 booleans), length, references -/
abbrev mv_SH : Type := Nat × Nat × (Nat → Nat) × (Nat → Nat) × (Nat → Nat → Nat)
abbrev mv_L : Type := List (Nat × mv_V)
/-- an instruction: its place, its length, its kind, three numbers, a constant, a list of places -/
abbrev mv_E : Type := Nat × Nat × Instr × Nat × Nat × Nat × Int × List Nat
abbrev mv_R32 (x : Int) : Prop := -2147483648 ≤ x ∧ x ≤ 2147483647
abbrev mv_R64 (x : Int) : Prop := -9223372036854775808 ≤ x ∧ x ≤ 9223372036854775807
def mv_up (M : mv_Mem) (a j : Nat) (v : Int) : mv_Mem := fun k i => if k = a ∧ i = j then v else M k i
def mv_cp (M : mv_Mem) (src sp dst dp n : Nat) : mv_Mem := fun k i => if k = dst ∧ dp ≤ i ∧ i < dp + n then M src (sp + (i - dp)) else M k i
def mv_lg (a : Nat) : mv_L → Option mv_V
  | [] => none
  | q :: r => if q.1 = a then some q.2 else mv_lg a r
def mv_isL : mv_V → Bool
  | .inr (.inl _) => true
  | _ => false
def mv_st1 (a : Nat) (v : mv_V) (L : mv_L) : mv_L := (a, v) :: L.filter (fun q => !(q.1 == a) && !(q.1 + 1 == a && mv_isL q.2))
def mv_st2 (a : Nat) (x : Int) (L : mv_L) : mv_L := (a, .inr (.inl x)) :: L.filter (fun q => !(q.1 == a) && (!(q.1 == a + 1) && !(q.1 + 1 == a && mv_isL q.2)))
def mv_stw (st : List mv_V) : Nat := (st.map fun v => if mv_isL v then 2 else 1).sum
def mv_and (x y : Int) : Int := (Int32.ofInt x &&& Int32.ofInt y).toInt
def mv_xor (x y : Int) : Int := (Int32.ofInt x ^^^ Int32.ofInt y).toInt
def mv_shl (x y : Int) : Int := (Int32.ofInt x <<< (Int32.ofInt y &&& 31)).toInt
def mv_shr (x y : Int) : Int := (Int32.ofInt x >>> (Int32.ofInt y &&& 31)).toInt
def mv_land (x y : Int) : Int := (Int64.ofInt x &&& Int64.ofInt y).toInt
def mv_lor (x y : Int) : Int := (Int64.ofInt x ||| Int64.ofInt y).toInt
def mv_lxor (x y : Int) : Int := (Int64.ofInt x ^^^ Int64.ofInt y).toInt
def mv_lshl (x y : Int) : Int := (Int64.ofInt x <<< ((Int32.ofInt y).toInt64 &&& 63)).toInt
def mv_lshr (x y : Int) : Int := (Int64.ofInt x >>> ((Int32.ofInt y).toInt64 &&& 63)).toInt
def mv_lushr (x y : Int) : Int := ((Int64.ofInt x).toUInt64 >>> (((Int32.ofInt y).toInt64).toUInt64 &&& Int64.toUInt64 63)).toInt64.toInt
def mv_cmp (x y : Int) : Int := if y < x then 1 else if x = y then 0 else -1
/-- a number, a long, a cell on top of the stack -/
def mv_pi (st : List mv_V) (k : Int → List mv_V → Prop) : Prop := match st with
  | .inl x :: r => k x r
  | _ => False
def mv_pl (st : List mv_V) (k : Int → List mv_V → Prop) : Prop := match st with
  | .inr (.inl x) :: r => k x r
  | _ => False
def mv_pr (st : List mv_V) (k : Nat → List mv_V → Prop) : Prop := match st with
  | .inr (.inr x) :: r => k x r
  | _ => False
def mv_sw (jump : Nat → Prop) (x : Int) (d : Nat) : Int → List Nat → Prop
  | _, [] => jump d
  | lo, t :: ts => if x = lo then jump t else mv_sw jump x d (lo + 1) ts
def mv_cd (c : Jvm.ClassFile.Cond) (x y : Int) (A B : Prop) : Prop := match c with
  | .eq => if x = y then A else B
  | .ne => if x = y then B else A
  | .lt => if x < y then A else B
  | .ge => if y ≤ x then A else B
  | .gt => if y < x then A else B
  | .le => if x ≤ y then A else B
def mv_nwA (sh : mv_SH) (a : Nat) (n : Nat) : mv_SH := (sh.1 + 1, sh.2.1 + n, (fun k => if k = sh.1 + 1 then a else sh.2.2.1 k), (fun k => if k = sh.1 + 1 then n else sh.2.2.2.1 k), sh.2.2.2.2)
def mv_nwO (sh : mv_SH) (a : Nat) (n : Nat) : mv_SH := (sh.1 + 1, sh.2.1 + n, (fun k => if k = sh.1 + 1 then a else sh.2.2.1 k), sh.2.2.2.1, (fun k f => if k = sh.1 + 1 then 0 else sh.2.2.2.2 k f))
def mv_nwM (sh : mv_SH) (M : mv_Mem) : mv_Mem := fun k i => if k = sh.1 + 1 then 0 else M k i
def mv_rf (sh : mv_SH) (k b j : Nat) : mv_SH := (sh.1, sh.2.1, sh.2.2.1, sh.2.2.2.1, (fun k' f => if k' = k ∧ f = b then j else sh.2.2.2.2 k' f))
/-- what is asked of a call's end: the cells are as they were; an int, a long, nothing is answered -/
def mv_qi (sh : mv_SH) (F : Int → mv_Mem → Prop) : Option mv_V → mv_SH → mv_Mem → Prop := fun r sh' M' => sh' = sh ∧ ∃ x, r = some (.inl x) ∧ F x M'
def mv_ql (sh : mv_SH) (F : Int → mv_Mem → Prop) : Option mv_V → mv_SH → mv_Mem → Prop := fun r sh' M' => sh' = sh ∧ ∃ x, r = some (.inr (.inl x)) ∧ F x M'
def mv_qv (sh : mv_SH) (F : mv_Mem → Prop) : Option mv_V → mv_SH → mv_Mem → Prop := fun r sh' M' => sh' = sh ∧ r = none ∧ F M'
theorem mv_qi_i {sh : mv_SH} {F : Int → mv_Mem → Prop} {x : Int} {M : mv_Mem} (h : F x M) : mv_qi sh F (some (.inl x)) sh M := ⟨rfl, x, rfl, h⟩
theorem mv_ql_i {sh : mv_SH} {F : Int → mv_Mem → Prop} {x : Int} {M : mv_Mem} (h : F x M) : mv_ql sh F (some (.inr (.inl x))) sh M := ⟨rfl, x, rfl, h⟩
theorem mv_qv_i {sh : mv_SH} {F : mv_Mem → Prop} {M : mv_Mem} (h : F M) : mv_qv sh F none sh M := ⟨rfl, rfl, h⟩
/-- one instruction: call, next, jump, post: what is to hold of a call, of the next instruction, behind a jump, at the end -/
def mv_body (call : Nat → List mv_V → mv_SH → mv_Mem → (Option mv_V → mv_SH → mv_Mem → Prop) → Prop)
    (next : mv_L → List mv_V → mv_SH → mv_Mem → Prop) (jump : Nat → mv_L → List mv_V → mv_SH → mv_Mem → Prop)
    (post : Option mv_V → mv_SH → mv_Mem → Prop) (n0 s0 mc ms : Nat) (ni : Instr) (a b c : Nat) (v : Int) (ts : List Nat) (L : mv_L) (st : List mv_V) (sh : mv_SH) (M : mv_Mem) : Prop :=
  match ni with
  | .iconst _ => next L (.inl v :: st) sh M
  | .lconst _ => next L (.inr (.inl v) :: st) sh M
  | .iload _ => (match mv_lg a L with
    | some (.inl x) => next L (.inl x :: st) sh M
    | _ => False)
  | .lload _ => (match mv_lg a L with
    | some (.inr (.inl x)) => next L (.inr (.inl x) :: st) sh M
    | _ => False)
  | .aload _ => (match mv_lg a L with
    | some (.inr (.inr x)) => next L (.inr (.inr x) :: st) sh M
    | _ => False)
  | .istore _ => mv_pi st fun x r => next (mv_st1 a (.inl x) L) r sh M
  | .lstore _ => mv_pl st fun x r => next (mv_st2 a x L) r sh M
  | .astore _ => mv_pr st fun x r => next (mv_st1 a (.inr (.inr x)) L) r sh M
  | .iinc _ _ => (match mv_lg a L with
    | some (.inl x) => mv_R32 (x + v) ∧ next (mv_st1 a (.inl (x + v)) L) st sh M
    | _ => False)
  | .iadd => mv_pi st fun y r => mv_pi r fun x r => mv_R32 (x + y) ∧ next L (.inl (x + y) :: r) sh M
  | .isub => mv_pi st fun y r => mv_pi r fun x r => mv_R32 (x - y) ∧ next L (.inl (x - y) :: r) sh M
  | .imul => mv_pi st fun y r => mv_pi r fun x r => mv_R32 (x * y) ∧ next L (.inl (x * y) :: r) sh M
  | .idiv => mv_pi st fun y r => mv_pi r fun x r => (¬ y = 0 ∧ mv_R32 (x.tdiv y)) ∧ next L (.inl (x.tdiv y) :: r) sh M
  | .irem => mv_pi st fun y r => mv_pi r fun x r => ¬ y = 0 ∧ next L (.inl (x.tmod y) :: r) sh M
  | .ineg => mv_pi st fun x r => mv_R32 (-x) ∧ next L (.inl (-x) :: r) sh M
  | .iand => mv_pi st fun y r => mv_pi r fun x r => next L (.inl (mv_and x y) :: r) sh M
  | .ixor => mv_pi st fun y r => mv_pi r fun x r => next L (.inl (mv_xor x y) :: r) sh M
  | .ishl => mv_pi st fun y r => mv_pi r fun x r => next L (.inl (mv_shl x y) :: r) sh M
  | .ishr => mv_pi st fun y r => mv_pi r fun x r => next L (.inl (mv_shr x y) :: r) sh M
  | .ladd => mv_pl st fun y r => mv_pl r fun x r => mv_R64 (x + y) ∧ next L (.inr (.inl (x + y)) :: r) sh M
  | .lsub => mv_pl st fun y r => mv_pl r fun x r => mv_R64 (x - y) ∧ next L (.inr (.inl (x - y)) :: r) sh M
  | .lmul => mv_pl st fun y r => mv_pl r fun x r => mv_R64 (x * y) ∧ next L (.inr (.inl (x * y)) :: r) sh M
  | .ldiv => mv_pl st fun y r => mv_pl r fun x r => (¬ y = 0 ∧ mv_R64 (x.tdiv y)) ∧ next L (.inr (.inl (x.tdiv y)) :: r) sh M
  | .lrem => mv_pl st fun y r => mv_pl r fun x r => ¬ y = 0 ∧ next L (.inr (.inl (x.tmod y)) :: r) sh M
  | .lneg => mv_pl st fun x r => mv_R64 (-x) ∧ next L (.inr (.inl (-x)) :: r) sh M
  | .land => mv_pl st fun y r => mv_pl r fun x r => next L (.inr (.inl (mv_land x y)) :: r) sh M
  | .lor => mv_pl st fun y r => mv_pl r fun x r => next L (.inr (.inl (mv_lor x y)) :: r) sh M
  | .lxor => mv_pl st fun y r => mv_pl r fun x r => next L (.inr (.inl (mv_lxor x y)) :: r) sh M
  | .lshl => mv_pi st fun y r => mv_pl r fun x r => next L (.inr (.inl (mv_lshl x y)) :: r) sh M
  | .lshr => mv_pi st fun y r => mv_pl r fun x r => next L (.inr (.inl (mv_lshr x y)) :: r) sh M
  | .lushr => mv_pi st fun y r => mv_pl r fun x r => next L (.inr (.inl (mv_lushr x y)) :: r) sh M
  | .i2l => mv_pi st fun x r => next L (.inr (.inl x) :: r) sh M
  | .l2i => mv_pl st fun x r => mv_R32 x ∧ next L (.inl x :: r) sh M
  | .lcmp => mv_pl st fun y r => mv_pl r fun x r => next L (.inl (mv_cmp x y) :: r) sh M
  | .dup => (match st with
    | x :: r => if mv_isL x = false then next L (x :: x :: r) sh M else False
    | _ => False)
  | .dup2 => (match st with
    | y :: x :: r => if mv_isL x = false ∧ mv_isL y = false then next L (y :: x :: y :: x :: r) sh M else False
    | _ => False)
  | .pop => (match st with
    | x :: r => if mv_isL x = false then next L r sh M else False
    | _ => False)
  | .goto _ => jump a L st sh M
  | .ifCond k _ => mv_pi st fun x r => mv_cd k x 0 (jump a L r sh M) (next L r sh M)
  | .if_icmp k _ => mv_pi st fun y r => mv_pi r fun x r => mv_cd k x y (jump a L r sh M) (next L r sh M)
  | .tableswitch _ _ _ _ => mv_pi st fun x r => mv_sw (fun t => jump t L r sh M) x a v ts
  | .getfield _ => mv_pr st fun k r => if 1 ≤ k ∧ k ≤ sh.1 ∧ sh.2.2.1 k = a then
      (if c = 2 then (if 1 ≤ sh.2.2.2.2 k b then next L (.inr (.inr (sh.2.2.2.2 k b)) :: r) sh M else False) else next L (.inl (M k b) :: r) sh M) else False
  | .putfield _ => if c = 2 then (mv_pr st fun j r => mv_pr r fun k r => if 1 ≤ k ∧ k ≤ sh.1 ∧ sh.2.2.1 k = a ∧ 1 ≤ j ∧ j ≤ sh.1 then next L r (mv_rf sh k b j) M else False)
      else mv_pi st fun x r => mv_pr r fun k r => if 1 ≤ k ∧ k ≤ sh.1 ∧ sh.2.2.1 k = a then (if c = 1 then (x = 0 ∨ x = 1) ∧ next L r sh (mv_up M k b x) else next L r sh (mv_up M k b x)) else False
  | .iaload => mv_pi st fun i r => mv_pr r fun k r => if k ≤ sh.1 ∧ sh.2.2.1 k = 100 then (0 ≤ i ∧ i < (sh.2.2.2.1 k : Int)) ∧ next L (.inl (M k i.toNat) :: r) sh M else False
  | .laload => mv_pi st fun i r => mv_pr r fun k r => if 1 ≤ k ∧ k ≤ sh.1 ∧ sh.2.2.1 k = 101 then (0 ≤ i ∧ i < (sh.2.2.2.1 k : Int)) ∧ next L (.inr (.inl (M k i.toNat)) :: r) sh M else False
  | .iastore => mv_pi st fun x r => mv_pi r fun i r => mv_pr r fun k r => if 1 ≤ k ∧ k ≤ sh.1 ∧ sh.2.2.1 k = 100 then (0 ≤ i ∧ i < (sh.2.2.2.1 k : Int)) ∧ next L r sh (mv_up M k i.toNat x) else False
  | .lastore => mv_pl st fun x r => mv_pi r fun i r => mv_pr r fun k r => if 1 ≤ k ∧ k ≤ sh.1 ∧ sh.2.2.1 k = 101 then (0 ≤ i ∧ i < (sh.2.2.2.1 k : Int)) ∧ next L r sh (mv_up M k i.toNat x) else False
  | .arraylength => mv_pr st fun k r => if k ≤ sh.1 ∧ sh.2.2.1 k = 100 then next L (.inl (sh.2.2.2.1 k : Int) :: r) sh M else False
  | .newarray _ => mv_pi st fun n r => if 0 ≤ n ∧ n ≤ 100000 ∧ sh.1 + 1 ≤ n0 + mc ∧ sh.2.1 + n.toNat ≤ s0 + ms then next L (.inr (.inr (sh.1 + 1)) :: r) (mv_nwA sh a n.toNat) (mv_nwM sh M) else False
  | .new _ => if sh.1 + 1 ≤ n0 + mc ∧ sh.2.1 + b ≤ s0 + ms then next L (.inr (.inr (sh.1 + 1)) :: st) (mv_nwO sh a b) (mv_nwM sh M) else False
  | .invokespecial _ => if c = 1 then (mv_pr st fun _ r => if mv_stw r ≤ 8 then next L r sh M else False)
      else (match (st.take b).reverse with
        | .inr (.inr k) :: As => if mv_stw (st.drop b) ≤ 8 ∧ b ≤ st.length ∧ sh.1 + (c - 2) ≤ n0 + mc ∧ sh.2.1 + v.toNat ≤ s0 + ms then call a (.inr (.inr k) :: As) sh M (fun r sh' M' => next L (r.toList ++ st.drop b) sh' M') else False
        | _ => False)
  | .invokevirtual _ => (match (st.take b).reverse with
        | .inr (.inr k) :: As => if (1 ≤ k ∧ k ≤ sh.1 ∧ sh.2.2.1 k = c) ∧ mv_stw (st.drop b) ≤ 8 ∧ b ≤ st.length then (if v = 1 then call a (.inr (.inr k) :: As) sh M (mv_qi sh fun x M' => next L (.inl x :: st.drop b) sh M') else if v = 2 then call a (.inr (.inr k) :: As) sh M (mv_ql sh fun x M' => next L (.inr (.inl x) :: st.drop b) sh M') else call a (.inr (.inr k) :: As) sh M (mv_qv sh fun M' => next L (st.drop b) sh M')) else False
        | _ => False)
  | .invokestatic _ => if c = 1 then (if mv_stw (st.drop b) ≤ 8 ∧ b ≤ st.length then (if v = 1 then call a (st.take b).reverse sh M (mv_qi sh fun x M' => next L (.inl x :: st.drop b) sh M') else if v = 2 then call a (st.take b).reverse sh M (mv_ql sh fun x M' => next L (.inr (.inl x) :: st.drop b) sh M') else call a (st.take b).reverse sh M (mv_qv sh fun M' => next L (st.drop b) sh M')) else False)
      else mv_pi st fun n r => mv_pi r fun dp r => mv_pr r fun d r => mv_pi r fun sp r => mv_pr r fun s r =>
        if (1 ≤ s ∧ s ≤ sh.1 ∧ sh.2.2.1 s = c) ∧ (1 ≤ d ∧ d ≤ sh.1 ∧ sh.2.2.1 d = c) ∧ mv_stw r ≤ 8 then (0 ≤ sp ∧ 0 ≤ dp ∧ 0 ≤ n ∧ sp + n ≤ (sh.2.2.2.1 s : Int) ∧ dp + n ≤ (sh.2.2.2.1 d : Int)) ∧ next L r sh (mv_cp M s sp.toNat d dp.toNat n.toNat) else False
  | .ireturn => (match st with
    | [.inl x] => if 150 ≤ mc ∨ (sh.1 = n0 + mc ∧ sh.2.1 = s0 + ms) then (if a = 1 then (x = 0 ∨ x = 1) ∧ post (some (.inl x)) sh M else post (some (.inl x)) sh M) else False
    | _ => False)
  | .lreturn => (match st with
    | [.inr (.inl x)] => if sh.1 = n0 + mc ∧ sh.2.1 = s0 + ms then post (some (.inr (.inl x))) sh M else False
    | _ => False)
  | .return_ => (match st with
    | [] => if sh.1 = n0 + mc ∧ sh.2.1 = s0 + ms then post none sh M else False
    | _ => False)
  | _ => False
/-- a method: its name, code, locals, answer, class; its instructions; its room: frames, cells, slots, words of locals -/
abbrev mv_T : Type := MethodName × ByteArray × Nat × Option FieldType × String × List mv_E × Nat × Nat × Nat × Nat
def mt_y (r : mv_T) : MethodName := r.1
def mt_cc (r : mv_T) : ByteArray := r.2.1
def mt_nL (r : mv_T) : Nat := r.2.2.1
def mt_ret (r : mv_T) : Option FieldType := r.2.2.2.1
def mt_own (r : mv_T) : String := r.2.2.2.2.1
def mt_code (r : mv_T) : List mv_E := r.2.2.2.2.2.1
def mt_fr (r : mv_T) : Nat := r.2.2.2.2.2.2.1
def mt_mc (r : mv_T) : Nat := r.2.2.2.2.2.2.2.1
def mt_ms (r : mv_T) : Nat := r.2.2.2.2.2.2.2.2.1
def mt_lo (r : mv_T) : Nat := r.2.2.2.2.2.2.2.2.2
def mt_rm (r : mv_T) : Room := { frames := mt_fr r, cells := mt_mc r, slots := mt_ms r, locals := mt_lo r }
/-- the code from a place on -/
def mv_at (pc : Nat) : List mv_E → List mv_E
  | [] => []
  | e :: r => if e.1 = pc then e :: r else mv_at pc r
/-- the locals at a method's entry -/
def mv_en (i : Nat) : List mv_V → mv_L
  | [] => []
  | v :: r => (i, v) :: mv_en (i + if mv_isL v then 2 else 1) r
def mv_pk (ks : List Nat) (L : mv_L) : mv_L := ks.filterMap (fun a => (mv_lg a L).map fun v => (a, v))
def mv_cut (pc : Nat) : List (Nat × List Nat) → Option (List Nat)
  | [] => none
  | q :: r => if q.1 = pc then some q.2 else mv_cut pc r
