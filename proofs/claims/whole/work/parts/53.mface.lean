/-! THE MODEL's CALLS: the judge, years, uses, pieces, plans -/
section ML
variable {S : mv_Mem} {G : mv_G} {l c : Nat} {M : mv_Mem} {F : Int → mv_Mem → Prop}
theorem ma_judge (hS : sg_oo c S) (h : sg_MM S M) (hF : ∀ M', sg_Y M M' → sg_MM (sa_judge S).2 M' → F (sa_judge S).1 M') : mv_Wp G 215 [.inr (.inr 88)] (mh l) M (mv_qi (mh l) F) := by
  have hw := hS.1
  have hwd := hw.1.1
  have hht := hw.1.2.1
  have hrow := hS.2.2.2.1
  obtain ⟨n48, hn1, hn2⟩ := sg_n48 hw
  unfold sa_judge at hF
  refine vw_X12_judge (md_found hS h (fun M1 y1 m1 w1 d1 => ?_))
  have c60 : M1 88 60 = S 32 0 := m1.2.2.2.2.1
  rw [c60]
  have fr : ∀ b i, ¬ (b = 88 ∧ i = 60) → (mv_up M1 88 60 0) b i = M1 b i := fun b i hb => mv_up_n hb
  have hsw : sg_sw S (mv_up S 32 0 0) := fun b i hb => mv_up_c (by omega)
  have hm2 : sg_MM (mv_up S 32 0 0) (mv_up M1 88 60 0) := by
    obtain ⟨h1, h1b, h2, h3, h4, h5, h6, h7, h8⟩ := m1
    refine ⟨sg_sw_Mo hsw (sg_Mo_fr h1 (fun b i hb => fr b i (by unfold sg_mc at hb; omega))), sg_sw_Rl hsw (sg_Rl_fr h1b (fr 88 17 (by decide)) (fun b i a1 a2 => fr b i (by omega))), (fr 88 7 (by decide)).trans h2, fun i hi => (fr 90 i (by omega)).trans (h3 i hi), ?_, fun i hi => ?_, fun i hi => (fr 89 i (by omega)).trans (h6 i hi), (fr 88 62 (by decide)).trans h7, fun z => ?_⟩
    · show mv_up M1 88 60 0 88 60 = mv_up S 32 0 0 32 0
      rw [mv_up_s, mv_up_s]
    · have hi : (i : Int) < mv_up S 32 0 0 32 0 := hi
      rw [mv_up_s] at hi
      omega
    · rw [sg_kp_up (by decide)]
      exact sg_Ki_fr (h8 z) (fun i => fr 136 i (by omega))
  have fin : F (sg_jd S (S 32 0) (S 33)) (mv_up M1 88 60 0) := hF _ (sg_Y_t y1 (fun b i hb => fr b i (by omega))) hm2
  have c8 : (mv_up M1 88 60 0) 88 8 = S 0 0 := (fr 88 8 (by decide)).trans m1.1.1.1
  have c9 : (mv_up M1 88 60 0) 88 9 = S 0 1 := (fr 88 9 (by decide)).trans m1.1.1.2.1
  have hrw : ∀ i : Nat, (i : Int) < S 32 0 → (mv_up M1 88 60 0) 135 i = S 33 i := fun i hi => (fr 135 i (by omega)).trans (m1.2.2.2.2.2.1 i hi)
  have h117 : ∀ k, k < 48 → sg_ok S k → (mv_up M1 88 60 0) 117 k = sg_u3 (sg_tk S k) := fun k hk hok => (fr 117 k (by omega)).trans ((d1 k hk).1 hok).1
  generalize mv_up M1 88 60 0 = M2 at fin c8 c9 hrw h117
  obtain ⟨w, ew⟩ := sg_nat (show 0 ≤ S 0 0 by omega)
  have key : ∀ (n p : Nat), p + n = n48 → F (sg_jf S (S 32 0) (S 33) n p) M2 → mv_Run G 215 136 7420 16 [(0, .inr (.inr 88)), (1, .inl (S 32 0)), (2, .inl (p : Int))] [] (mh l) M2 (mv_qi (mh l) F) := by
    intro n
    induction n with
    | zero =>
      intro p hp hf
      refine vr_X12_judge_16 ?_
      rw [c8, c9, ← hn1, if_pos (by omega)]
      unfold sg_jf at hf
      rw [← hn1] at hf
      refine ⟨by omega, by omega, ?_⟩
      split
      · rw [if_neg (by omega)] at hf
        exact mv_qi_i hf
      · rw [if_pos (by omega)] at hf
        exact mv_qi_i hf
    | succ n ih =>
      intro p hp hf
      refine vr_X12_judge_16 ?_
      obtain ⟨hok, hpl⟩ := sg_in_ok hw (p := p) (by omega)
      have hin : sg_in S p = 8 * (p / w) + p % w := by
        unfold sg_in
        rw [ew, Int.toNat_natCast]
      have hk48 := sg_ok_48 hw hok
      have e1 : Int.tdiv (p : Int) (w : Int) = ((p / w : Nat) : Int) := by
        rw [sg_td (by omega)]
        rfl
      have e2 : Int.tmod (p : Int) (w : Int) = ((p % w : Nat) : Int) := by
        rw [sg_tm (by omega)]
        rfl
      have e3 : 8 * ((p / w : Nat) : Int) + ((p % w : Nat) : Int) = (sg_in S p : Int) := by
        rw [hin]
        omega
      have hpw : p / w ≤ p := Nat.div_le_self _ _
      have t1 := sg_tk_lo hw (sg_in S p)
      have m1' : sg_u3 (sg_tk S (sg_in S p)) = if sg_tk S (sg_in S p) = -1 then -9 else sg_tk S (sg_in S p) / 3 := rfl
      unfold sg_jf sg_du at hf
      rw [c8, c9, ← hn1, if_neg (by omega), ew, e1, e2, e3, Int.toNat_natCast, Int.toNat_natCast, h117 _ hk48 hok]
      refine ⟨by omega, ⟨by omega, by omega⟩, by omega, by omega, by omega, by omega, ?_⟩
      have tell : ((S 32 0 ≤ (p : Int) ∨ S 33 p ≠ (if sg_tk S (sg_in S p) = -1 then -1 else sg_tk S (sg_in S p) / 3))) → mv_Wp G 144 [.inl (sg_in S p : Int)] (mh l) M2 (mv_qi (mh l) fun x3 M3 => mv_qi (mh l) F (some (.inl x3)) (mh l) M3) := fun z => by
        rw [if_pos z] at hf
        exact md_told hk48 (mv_qi_i hf)
      have nxt : ¬ ((S 32 0 ≤ (p : Int) ∨ S 33 p ≠ (if sg_tk S (sg_in S p) = -1 then -1 else sg_tk S (sg_in S p) / 3))) → mv_R32 ((p : Int) + 1) ∧ mv_Run G 215 136 7420 16 [(0, .inr (.inr 88)), (1, .inl (S 32 0)), (2, .inl ((p : Int) + 1))] [] (mh l) M2 (mv_qi (mh l) F) := fun z => by
        rw [if_neg z] at hf
        exact ⟨by omega, ih (p + 1) (by omega) hf⟩
      by_cases z : sg_tk S (sg_in S p) = -1
      · rw [if_pos z] at tell nxt
        rw [m1', if_pos z, if_pos rfl]
        by_cases y : S 32 0 ≤ (p : Int)
        · rw [if_pos y]
          exact tell (Or.inl y)
        · rw [if_neg y, hrw p (by omega)]
          refine ⟨by omega, ?_⟩
          split
          · rename_i t
            exact nxt (fun u => by rcases u with u | u; exact y u; exact u t)
          · rename_i t
            exact tell (Or.inr t)
      · rw [if_neg z] at tell nxt
        rw [m1', if_neg z, if_neg (by omega)]
        refine ⟨by omega, ?_⟩
        by_cases y : S 32 0 ≤ (p : Int)
        · rw [if_pos y]
          exact tell (Or.inl y)
        · rw [if_neg y, hrw p (by omega)]
          refine ⟨by omega, ?_⟩
          split
          · rename_i t
            exact nxt (fun u => by rcases u with u | u; exact y u; exact u t)
          · rename_i t
            exact tell (Or.inr t)
  unfold sg_jd at fin
  rw [show (S 0 0 * S 0 1).toNat = n48 by omega] at fin
  exact key n48 0 (by omega) fin
end ML
