/-! THE CLASS'S CELLS AND SOME ROWS OF THE LAW BEHIND THEM -/
theorem sg_CC_fr {S M M' : mv_Mem} (h : sg_CC S M) (hm : ∀ a i, 1 ≤ a → a ≤ 87 → M' a i = M a i) : sg_CC S M' := by
  obtain ⟨h1, h2, h3, h4, h5, h6, h7, h8⟩ := h
  refine ⟨sg_K_fr h1 (fun a i ha => hm a i (by omega) (by omega)), ?_, fun i hi => ?_, ?_, fun i hi => ?_, fun i hi => ?_, ?_, fun z => sg_C_fr (h8 z) (fun c d1 d2 i => hm c i (by omega) (by omega))⟩
  · rw [hm 2 1 (by decide) (by decide)]; exact h2
  · rw [hm 3 i (by decide) (by decide)]; exact h3 i hi
  · rw [hm 4 1 (by decide) (by decide)]; exact h4
  · rw [hm 5 i (by decide) (by decide)]; exact h5 i hi
  · rw [hm 87 i (by decide) (by decide)]; exact h6 i hi
  · rw [hm 1 8 (by decide) (by decide)]; exact h7
/-- .. with e rows of 12 ints -/
def lh_t (e k : Nat) : Nat := if k ≤ 87 then mh_t k else if k ≤ e + 87 then 100 else 0
def lh_l (l e k : Nat) : Nat := if k ≤ 87 then mh_l l k else if k ≤ e + 87 then 12 else 0
def lh (l e : Nat) : mv_SH := (e + 87, 12 * e + 4749, lh_t e, lh_l l e, mh_r)
theorem mh_t_0 {k : Nat} (h : 87 < k) : mh_t k = 0 := by
  unfold mh_t
  have h2 : mh_tags.length = 88 := by decide +kernel
  rw [List.getD_eq_getElem?_getD, List.getElem?_eq_none (by omega)]
  rfl
theorem mh_l_0 {l k : Nat} (h : 87 < k) : mh_l l k = 0 := by
  unfold mh_l
  have h2 : mh_lens.length = 88 := by decide +kernel
  rw [if_neg (by omega), List.getD_eq_getElem?_getD, List.getElem?_eq_none (by omega)]
  rfl
theorem mh_r_le (k f : Nat) : mh_r k f ≤ 87 := by
  have h1 : mh_refs.all (fun r => r.all (fun x => Nat.ble x 87)) = true := by decide +kernel
  unfold mh_r
  rw [List.getD_eq_getElem?_getD (l := mh_refs.getD k []), List.getD_eq_getElem?_getD (l := mh_refs)]
  cases hr : mh_refs[k]? with
  | none => exact Nat.zero_le _
  | some r =>
    have h2 := List.all_eq_true.mp h1 r (List.mem_of_getElem? hr)
    show (r[f]?.getD 0) ≤ 87
    cases hx : r[f]? with
    | none => exact Nat.zero_le _
    | some x => exact Nat.le_of_ble_eq_true (List.all_eq_true.mp h2 x (List.mem_of_getElem? hx))
theorem lh_0 (l : Nat) : lh l 0 = mh l := by
  have e1 : lh_t 0 = mh_t := funext fun k => by
    unfold lh_t
    by_cases h : k ≤ 87
    · rw [if_pos h]
    · rw [if_neg h, if_neg (by omega), mh_t_0 (by omega)]
  have e2 : lh_l l 0 = mh_l l := funext fun k => by
    unfold lh_l
    by_cases h : k ≤ 87
    · rw [if_pos h]
    · rw [if_neg h, if_neg (by omega), mh_l_0 (by omega)]
  unfold lh mh
  rw [e1, e2]
theorem lh_nw (l e : Nat) : mv_nwA (lh l e) 100 12 = lh l (e + 1) := by
  have e1 : (fun k => if k = e + 87 + 1 then 100 else lh_t e k) = lh_t (e + 1) := funext fun k => by
    unfold lh_t
    by_cases h : k = e + 87 + 1
    · rw [if_pos h, if_neg (by omega), if_pos (by omega)]
    · rw [if_neg h]
      by_cases h2 : k ≤ 87
      · rw [if_pos h2, if_pos h2]
      · rw [if_neg h2, if_neg h2]
        by_cases h3 : k ≤ e + 87
        · rw [if_pos h3, if_pos (by omega)]
        · rw [if_neg h3, if_neg (by omega)]
  have e2 : (fun k => if k = e + 87 + 1 then 12 else lh_l l e k) = lh_l l (e + 1) := funext fun k => by
    unfold lh_l
    by_cases h : k = e + 87 + 1
    · rw [if_pos h, if_neg (by omega), if_pos (by omega)]
    · rw [if_neg h]
      by_cases h2 : k ≤ 87
      · rw [if_pos h2, if_pos h2]
      · rw [if_neg h2, if_neg h2]
        by_cases h3 : k ≤ e + 87
        · rw [if_pos h3, if_pos (by omega)]
        · rw [if_neg h3, if_neg (by omega)]
  show (e + 87 + 1, 12 * e + 4749 + 12, (fun k => if k = e + 87 + 1 then 100 else lh_t e k), (fun k => if k = e + 87 + 1 then 12 else lh_l l e k), mh_r) = _
  rw [e1, e2]
  unfold lh
  rw [show e + 87 + 1 = e + 1 + 87 by omega, show 12 * e + 4749 + 12 = 12 * (e + 1) + 4749 by omega]
def lh_io (e k : Nat) : Nat := if k ≤ 87 then k else k + e
def lh_ka (e k : Nat) : Nat := if k ≤ 87 then k else if k ≤ e + 87 then k else k - e
theorem lh_In (l e : Nat) : mv_In (lh_io e) (lh_ka e) (lh l e) (mh l) := by
  refine ⟨rfl, fun k => ?_, fun j => ?_, fun k hk => ?_, fun k hk => ?_, fun k hk => ?_, fun k f hk => ?_, fun k hk => ?_⟩
  · unfold lh_io lh_ka
    by_cases h : k ≤ 87
    · rw [if_pos h, if_pos h]
    · rw [if_neg h, if_neg (by omega), if_neg (by omega)]
      omega
  · show lh_io e (87 + 1 + j) = e + 87 + 1 + j
    unfold lh_io
    rw [if_neg (by omega)]
    omega
  · have hk : k ≤ 87 := hk
    show lh_io e k ≤ e + 87
    unfold lh_io
    rw [if_pos hk]
    omega
  · have hk : k ≤ 87 := hk
    show mh_t k = lh_t e (lh_io e k)
    unfold lh_io lh_t
    rw [if_pos hk, if_pos hk]
  · have hk : k ≤ 87 := hk
    show mh_l l k = lh_l l e (lh_io e k)
    unfold lh_io lh_l
    rw [if_pos hk, if_pos hk]
  · have hk : k ≤ 87 := hk
    show lh_io e (mh_r k f) = mh_r (lh_io e k) f
    unfold lh_io
    rw [if_pos hk, if_pos (mh_r_le k f)]
  · have hk : 87 < k := hk
    show mh_l l k ≤ 100000
    rw [mh_l_0 hk]
    omega
theorem lh_m1 {l : Nat} {e a : Nat} (h : a ≤ 87) : mv_im (lh_io e) (lh_ka e) (mh l) a ∧ lh_ka e a = a := by
  have e1 : lh_ka e a = a := by unfold lh_ka; rw [if_pos h]
  refine ⟨⟨?_, ?_⟩, e1⟩
  · rw [e1]; unfold lh_io; rw [if_pos h]
  · rw [e1]; exact h
theorem lh_m2 {l : Nat} {e a : Nat} (h : 88 ≤ a) : ¬ mv_im (lh_io e) (lh_ka e) (mh l) a := by
  intro ⟨h1, h2⟩
  have h2 : lh_ka e a ≤ 87 := h2
  unfold lh_io at h1
  rw [if_pos h2] at h1
  omega
theorem lh_M1 {l : Nat} {M Mm : mv_Mem} {e a : Nat} (h : a ≤ 87) (i : Nat) : mv_lM (lh_io e) (lh_ka e) (mh l) M Mm a i = Mm a i := by
  unfold mv_lM
  rw [if_pos (lh_m1 h).1, (lh_m1 (l := l) h).2]
theorem lh_M2 {l : Nat} {M Mm : mv_Mem} {e a : Nat} (h : 88 ≤ a) (i : Nat) : mv_lM (lh_io e) (lh_ka e) (mh l) M Mm a i = M a i := by
  unfold mv_lM
  rw [if_neg (lh_m2 h)]
theorem lh_S1 {l : Nat} {M : mv_Mem} {e a : Nat} (h : a ≤ 87) (i : Nat) : mv_mS (lh_io e) (mh l) M a i = M a i := by
  show (if a ≤ 87 then M (lh_io e a) i else 0) = M a i
  rw [if_pos h]
  unfold lh_io
  rw [if_pos h]
theorem lh_X {l : Nat} {M Mm : mv_Mem} {e : Nat} (h : sg_X (mv_mS (lh_io e) (mh l) M) Mm) : sg_X M (mv_lM (lh_io e) (lh_ka e) (mh l) M Mm) := by
  intro a i ha
  rcases ha with rfl | ha
  · rw [lh_M1 (by decide), h 0 i (Or.inl rfl), lh_S1 (by decide)]
  · exact lh_M2 ha i
section LX
variable {G : mv_G} {l e : Nat} {S S' M : mv_Mem} {x : Int} {F : Int → mv_Mem → Prop} {c : Nat} {as : List mv_V}
/-- a call of the class that answers an int, with rows behind the class's cells -/
theorem lx_i (hc : mt_mc (mv_r c) = 0) (has : as.map (mv_tr (lh_io e)) = as)
    (H : ∀ (G : mv_G) (M : mv_Mem) (F : Int → mv_Mem → Prop), sg_CC S M → (∀ M', sg_X M M' → sg_CC S' M' → F x M') → mv_Wp G c as (mh l) M (mv_qi (mh l) F))
    (h : sg_CC S M) (hF : ∀ M', sg_X M M' → sg_CC S' M' → F x M') : mv_Wp G c as (lh l e) M (mv_qi (lh l e) F) := by
  rw [← has]
  refine mv_frame_i (lh_In l e) (by rw [hc]; omega) (H _ _ _ (sg_CC_fr h (fun a i _ ha => lh_S1 ha i)) (fun Mm hx hq => hF _ (lh_X hx) (sg_CC_fr hq (fun a i _ ha => lh_M1 ha i))))
theorem lx_l (hc : mt_mc (mv_r c) = 0) (has : as.map (mv_tr (lh_io e)) = as)
    (H : ∀ (G : mv_G) (M : mv_Mem) (F : Int → mv_Mem → Prop), sg_CC S M → (∀ M', sg_X M M' → sg_CC S' M' → F x M') → mv_Wp G c as (mh l) M (mv_ql (mh l) F))
    (h : sg_CC S M) (hF : ∀ M', sg_X M M' → sg_CC S' M' → F x M') : mv_Wp G c as (lh l e) M (mv_ql (lh l e) F) := by
  rw [← has]
  refine mv_frame_l (lh_In l e) (by rw [hc]; omega) (H _ _ _ (sg_CC_fr h (fun a i _ ha => lh_S1 ha i)) (fun Mm hx hq => hF _ (lh_X hx) (sg_CC_fr hq (fun a i _ ha => lh_M1 ha i))))
/-! the law's three small methods, in any world -/
theorem ll_and (x : Int) : 0 ≤ mv_and x 2147483647 := by
  unfold mv_and
  have e : (Int32.ofInt x &&& Int32.ofInt 2147483647).toInt = ((Int32.ofInt x).toBitVec &&& (Int32.ofInt 2147483647).toBitVec).toInt := rfl
  rw [e, BitVec.toInt_eq_msb_cond, BitVec.msb_and, show (Int32.ofInt 2147483647).toBitVec.msb = false by decide, Bool.and_false, if_neg (by decide)]
  exact Int.natCast_nonneg _
theorem ll_if {sh : mv_SH} {P : Prop} (h : P) : if 150 ≤ 0 ∨ (sh.1 = sh.1 + 0 ∧ sh.2.1 = sh.2.1 + 0) then P else False := by
  rw [if_pos (Or.inr ⟨rfl, rfl⟩)]
  exact h
theorem ll_pick {sh : mv_SH} {v n : Int} (hn : 1 ≤ n ∧ n ≤ 2147483647) (h : ∀ x, 0 ≤ x → x < n → F x M) : mv_Wp G 228 [.inl v, .inl n] sh M (mv_qi sh F) := by
  refine mv_wp [] 20 ok_228 oc_228 rfl ?_
  show ¬ n = 0 ∧ (if 150 ≤ 0 ∨ (sh.1 = sh.1 + 0 ∧ sh.2.1 = sh.2.1 + 0) then mv_qi sh F (some (.inl (Int.tmod (mv_and v 2147483647) n))) sh M else False)
  refine ⟨by omega, ?_⟩
  have h0 := ll_and v
  exact ll_if (mv_qi_i (h _ (Int.tmod_nonneg _ h0) (Int.tmod_lt_of_pos _ (by omega))))
theorem ll_cellOf {sh : mv_SH} {k w : Int} (hk : 0 ≤ k ∧ k ≤ 100) (hw : 1 ≤ w ∧ w ≤ 8) (h : F (10 * (k % w) + k / w) M) : mv_Wp G 229 [.inl k, .inl w] sh M (mv_qi sh F) := by
  refine mv_wp [] 20 ok_229 oc_229 rfl ?_
  have e1 : Int.tmod k w = k % w := sg_tm hk.1
  have e2 : Int.tdiv k w = k / w := sg_td hk.1
  have b1 := Int.emod_nonneg k (show w ≠ 0 by omega)
  have b2 := Int.emod_lt_of_pos k (show 0 < w by omega)
  have b3 := Int.ediv_nonneg hk.1 (show 0 ≤ w by omega)
  have b4 : k / w ≤ k := Int.ediv_le_self _ hk.1
  show ¬ w = 0 ∧ mv_R32 (10 * Int.tmod k w) ∧ (¬ w = 0 ∧ mv_R32 (Int.tdiv k w)) ∧ mv_R32 (10 * Int.tmod k w + Int.tdiv k w) ∧ (if 150 ≤ 0 ∨ (sh.1 = sh.1 + 0 ∧ sh.2.1 = sh.2.1 + 0) then mv_qi sh F (some (.inl (10 * Int.tmod k w + Int.tdiv k w))) sh M else False)
  rw [e1, e2]
  refine ⟨by omega, by omega, ⟨by omega, by omega⟩, by omega, ?_⟩
  exact ll_if (mv_qi_i h)
theorem ll_cell {sh : mv_SH} {k : Int} (ht : sh.2.2.1 0 = 100) (hk : 0 ≤ k ∧ k ≤ 1000) (h : ∀ x, F x M) : mv_Wp G 227 [.inr (.inr 0), .inl k] sh M (mv_qi sh F) := by
  refine mv_wp [] 30 ok_227 oc_227 rfl ?_
  have d : ∀ x, (if 150 ≤ 0 ∨ (sh.1 = sh.1 + 0 ∧ sh.2.1 = sh.2.1 + 0) then mv_qi sh F (some (.inl x)) sh M else False) := fun x => by
    rw [if_pos (Or.inr ⟨rfl, rfl⟩)]
    exact mv_qi_i (h _)
  show (if 0 ≤ sh.1 ∧ sh.2.2.1 0 = 100 then (if (sh.2.2.2.1 0 : Int) ≤ k then mv_R32 (7919 * k) ∧ mv_R32 (7919 * k + 12) ∧ (if 150 ≤ 0 ∨ (sh.1 = sh.1 + 0 ∧ sh.2.1 = sh.2.1 + 0) then mv_qi sh F (some (.inl (7919 * k + 12))) sh M else False) else (if 0 ≤ sh.1 ∧ sh.2.2.1 0 = 100 then (0 ≤ k ∧ k < (sh.2.2.2.1 0 : Int)) ∧ (if 150 ≤ 0 ∨ (sh.1 = sh.1 + 0 ∧ sh.2.1 = sh.2.1 + 0) then mv_qi sh F (some (.inl (M 0 k.toNat))) sh M else False) else False)) else False)
  rw [if_pos ⟨Nat.zero_le _, ht⟩]
  by_cases hl : (sh.2.2.2.1 0 : Int) ≤ k
  · rw [if_pos hl]
    exact ⟨by omega, by omega, d _⟩
  · rw [if_neg hl, if_pos ⟨Nat.zero_le _, ht⟩]
    exact ⟨by omega, d _⟩
end LX
