/-! WHAT EACH CALL ANSWERS AND LEAVES (as the document asks): of a state and its arguments -/
def sa_feed (S : mv_Mem) (n b : Int) : Int × mv_Mem :=
  if n < 1 then (-4, sg_no S (-4)) else if 8 < n ∨ 60 < S 30 0 + n then (-6, sg_no S (-6))
  else (S 30 0 + n, fun a i => if a = 30 ∧ i = 0 then S 30 0 + n else if a = 31 ∧ (S 30 0).toNat ≤ i ∧ i < (S 30 0).toNat + n.toNat then sg_by b (i - (S 30 0).toNat) else S a i)
noncomputable def sa_read (S : mv_Mem) : Int × mv_Mem :=
  if (sg_prs (S 31) (S 30 0).toNat).1 = -1 then ((sg_prs (S 31) (S 30 0).toNat).2.1 * (sg_prs (S 31) (S 30 0).toNat).2.2, mv_up (sg_rdS S (S 31) (sg_prs (S 31) (S 30 0).toNat).2.1.toNat (sg_prs (S 31) (S 30 0).toNat).2.2.toNat) 30 0 0)
  else (-20 - (sg_prs (S 31) (S 30 0).toNat).1, mv_up S 30 0 0)
def sa_acre (S : mv_Mem) (xy w : Int) : Int × mv_Mem :=
  if sg_ac S xy < 0 then (-1, sg_no S (-1)) else if w = 0 then (S 1 (sg_ac S xy).toNat, S) else if w = 1 then (S 2 (sg_ac S xy).toNat, S) else if w = 2 then (S 4 (sg_ac S xy).toNat, S)
  else if w = 3 then ((if S 3 (sg_ac S xy).toNat < 0 then -9 else S 3 (sg_ac S xy).toNat), S) else if w = 4 then (sg_on S (sg_ac S xy).toNat, S) else (-2, sg_no S (-2))
def sg_ra (S : mv_Mem) (k d : Nat) : Int := if S 5 (4 * k + d) = 4 then 3 else S 5 (4 * k + d)
def sa_road (S : mv_Mem) (a b c : Int) : Int × mv_Mem :=
  if sg_ac S a < 0 ∨ sg_ac S b < 0 ∨ sg_dir (sg_ac S a).toNat (sg_ac S b).toNat = -1 then (-1, sg_no S (-1)) else if c < 0 ∨ 3 < c then (-2, sg_no S (-2))
  else if sg_ra S (sg_ac S a).toNat (sg_dir (sg_ac S a).toNat (sg_ac S b).toNat).toNat = 0 ∧ c ≠ 0 ∧ 12 ≤ S 0 6 then (-6, sg_no S (-6))
  else (sg_ra S (sg_ac S a).toNat (sg_dir (sg_ac S a).toNat (sg_ac S b).toNat).toNat, mv_up (sg_lay S (sg_ac S a).toNat (sg_dir (sg_ac S a).toNat (sg_ac S b).toNat).toNat c) 0 6 (S 0 6 + ((if c = 0 then 0 else 1) - (if sg_ra S (sg_ac S a).toNat (sg_dir (sg_ac S a).toNat (sg_ac S b).toNat).toNat = 0 then 0 else 1))))
def sa_step (S : mv_Mem) (k v : Int) : Int × mv_Mem :=
  if k < 0 ∨ 3 < k then (-2, sg_no S (-2)) else if sg_un v 1 99 ≠ 0 then (sg_un v 1 99, sg_no S (sg_un v 1 99)) else (S 6 k.toNat, mv_up S 6 k.toNat v)
def sa_toll (S : mv_Mem) (xy v : Int) : Int × mv_Mem :=
  if sg_ac S xy < 0 then (-1, sg_no S (-1)) else if sg_un v 0 99 ≠ 0 then (sg_un v 0 99, sg_no S (sg_un v 0 99)) else (S 2 (sg_ac S xy).toNat, mv_up S 2 (sg_ac S xy).toNat v)
noncomputable def sa_way (S : mv_Mem) (a b : Int) : Int × mv_Mem :=
  if sg_ac S a < 0 ∨ sg_ac S b < 0 then (-1, sg_no S (-1)) else (sg_way S false (sg_ac S b).toNat (sg_ac S a).toNat, S)
def sa_market (S : mv_Mem) (xy : Int) : Int × mv_Mem :=
  if sg_ac S xy < 0 then (-1, sg_no S (-1)) else if sg_on S (sg_ac S xy).toNat ≠ -9 then (-3, sg_no S (-3)) else if 3 ≤ S 0 2 then (-6, sg_no S (-6))
  else (S 0 2, mv_up (mv_up S 7 (S 0 2).toNat (sg_ac S xy)) 0 2 (S 0 2 + 1))
def sa_use (S : mv_Mem) (a b c d e : Int) : Int × mv_Mem :=
  if a < 0 ∨ 5 < a then (-2, sg_no S (-2)) else if b < 0 ∨ c < 0 ∨ d < 0 ∨ e < 0 then (-4, sg_no S (-4)) else if 99 < b ∨ 99 < c ∨ 9999 < d ∨ 99 < e ∨ 6 ≤ S 0 3 then (-6, sg_no S (-6))
  else (S 0 3, mv_up (mv_up (mv_up (mv_up (mv_up (mv_up S 8 (S 0 3).toNat a) 9 (S 0 3).toNat b) 10 (S 0 3).toNat c) 11 (S 0 3).toNat d) 12 (S 0 3).toNat e) 0 3 (S 0 3 + 1))
def sa_year (S : mv_Mem) (u v : Int) : Int × mv_Mem :=
  if ¬ (0 ≤ u ∧ u < S 0 3) then (-1, sg_no S (-1)) else if S 8 u.toNat ≠ 3 then (-3, sg_no S (-3)) else if v < -99 then (-4, sg_no S (-4)) else if 99 < v ∨ 6 ≤ S 15 u.toNat then (-6, sg_no S (-6))
  else (S 15 u.toNat + 1, mv_up (mv_up S 14 (6 * u.toNat + (S 15 u.toNat).toNat) v) 15 u.toNat (S 15 u.toNat + 1))
def sg_of (u m : Int) : Nat := 3 * u.toNat + m.toNat
def sg_nu2 (S : mv_Mem) (u m : Int) : Prop := (0 ≤ u ∧ u < S 0 3) ∧ (0 ≤ m ∧ m < S 0 2)
noncomputable def sg_ip (P : Prop) (a b : Int × mv_Mem) : Int × mv_Mem := @ite _ P (Classical.propDecidable P) a b
noncomputable def sa_price (S : mv_Mem) (u m v : Int) : Int × mv_Mem :=
  sg_ip (¬ sg_nu2 S u m) (-1, sg_no S (-1)) (if sg_un v 0 999 ≠ 0 then (sg_un v 0 999, sg_no S (sg_un v 0 999)) else (S 16 (sg_of u m), mv_up S 16 (sg_of u m) v))
def sa_tax (S : mv_Mem) (u v : Int) : Int × mv_Mem :=
  if u = -1 then (if sg_un v 0 100 ≠ 0 then (sg_un v 0 100, sg_no S (sg_un v 0 100)) else (S 0 4, mv_up S 0 4 v))
  else if ¬ (0 ≤ u ∧ u < S 0 3) then (-1, sg_no S (-1)) else if sg_un v 0 9999 ≠ 0 then (sg_un v 0 9999, sg_no S (sg_un v 0 9999)) else (S 13 u.toNat, mv_up S 13 u.toNat v)
noncomputable def sa_bid (S : mv_Mem) (u xy m : Int) : Int × mv_Mem :=
  sg_ip (¬ sg_nu2 S u m ∨ sg_ac S xy < 0) (4000000000000000001, sg_no S (-1)) (sg_bid S (sg_of u m) (sg_ac S xy).toNat, S)
noncomputable def sa_goes (S : mv_Mem) (xy w : Int) : Int × mv_Mem :=
  if sg_ac S xy < 0 then (-1, sg_no S (-1)) else if w < 0 ∨ 1 < w then (-2, sg_no S (-2))
  else ((if sg_tk S (sg_ac S xy).toNat = -1 then -9 else if w = 0 then sg_tk S (sg_ac S xy).toNat / 3 else sg_tk S (sg_ac S xy).toNat % 3), S)
noncomputable def sa_rent (S : mv_Mem) (xy : Int) : Int × mv_Mem :=
  if xy = -1 then (sg_all S, S) else if sg_ac S xy < 0 then (4000000000000000001, sg_no S (-1)) else (sg_rt S (sg_ac S xy).toNat, S)
noncomputable def sa_comes (S : mv_Mem) (u m : Int) : Int × mv_Mem := sg_ip (¬ sg_nu2 S u m) (-1, sg_no S (-1)) (sg_arr S (sg_of u m), S)
noncomputable def sa_piece (S : mv_Mem) (u m c d : Int) : Int × mv_Mem :=
  sg_ip (¬ sg_nu2 S u m) (-1, sg_no S (-1)) (if c < 0 ∨ d < 0 then (-4, sg_no S (-4)) else if 9999 < c ∨ 999 < d ∨ 6 ≤ S 19 (sg_of u m) then (-6, sg_no S (-6))
    else (S 19 (sg_of u m) + 1, mv_up (mv_up (mv_up S 17 (6 * sg_of u m + (S 19 (sg_of u m)).toNat) c) 18 (6 * sg_of u m + (S 19 (sg_of u m)).toNat) d) 19 (sg_of u m) (S 19 (sg_of u m) + 1)))
noncomputable def sa_bought (S : mv_Mem) (u m v : Int) : Int × mv_Mem :=
  sg_ip (¬ sg_nu2 S u m) (-1, sg_no S (-1)) (if sg_un v 0 999 ≠ 0 then (sg_un v 0 999, sg_no S (sg_un v 0 999)) else (sg_bo S (sg_of u m) v, S))
noncomputable def sa_clears (S : mv_Mem) (u m : Int) : Int × mv_Mem := sg_ip (¬ sg_nu2 S u m) (-1, sg_no S (-1)) (sg_clr S (sg_of u m), S)
noncomputable def sa_rounds (S : mv_Mem) (n : Int) : Int × mv_Mem :=
  if sg_un n 1 20 ≠ 0 then (sg_un n 1 20, sg_no S (sg_un n 1 20)) else ((sg_rn S n.toNat).2, (sg_rn S n.toNat).1)
noncomputable def sa_out (S : mv_Mem) (u : Int) : Int × mv_Mem := if ¬ (0 ≤ u ∧ u < S 0 3) then (-1, sg_no S (-1)) else (sg_out S u, S)
noncomputable def sa_borders (S : mv_Mem) : Int × mv_Mem := (sg_bds S, S)
def sa_plan (S : mv_Mem) (a b c d : Int) : Int × mv_Mem :=
  if sg_ac S a < 0 ∨ sg_ac S b < 0 ∨ sg_dir (sg_ac S a).toNat (sg_ac S b).toNat = -1 then (-1, sg_no S (-1)) else if c < 1 ∨ 3 < c then (-2, sg_no S (-2)) else if d < 0 then (-4, sg_no S (-4))
  else if 99999 < d ∨ 8 ≤ S 0 5 then (-6, sg_no S (-6)) else if sg_ra S (sg_ac S a).toNat (sg_dir (sg_ac S a).toNat (sg_ac S b).toNat).toNat ≠ 0 then (-3, sg_no S (-3))
  else (S 0 5, mv_up (mv_up (mv_up (mv_up (mv_up S 20 (S 0 5).toNat (sg_ac S a)) 21 (S 0 5).toNat (sg_dir (sg_ac S a).toNat (sg_ac S b).toNat)) 22 (S 0 5).toNat c) 23 (S 0 5).toNat d) 0 5 (S 0 5 + 1))
noncomputable def sg_up (S : mv_Mem) (p : Int) : Int := if p < 0 ∨ S 0 5 ≤ p then -1 else sg_if (sg_bu S p.toNat) (-3) 0
noncomputable def sa_gain (S : mv_Mem) (p : Int) : Int × mv_Mem := if sg_up S p ≠ 0 then (4000000000000000000 - sg_up S p, sg_no S (sg_up S p)) else (sg_gain S p.toNat, S)
noncomputable def sa_best (S : mv_Mem) (v : Int) : Int × mv_Mem :=
  if sg_un v 0 99999 ≠ 0 then (sg_un v 0 99999, sg_no S (sg_un v 0 99999)) else sg_ip (∃ p : Nat, (p : Int) < S 0 5 ∧ sg_bu S p) (-3, sg_no S (-3)) ((sg_be S v (2 ^ (S 0 5).toNat - 1)).1, S)
noncomputable def sa_losers (S : mv_Mem) (p : Int) : Int × mv_Mem := if sg_up S p ≠ 0 then (sg_up S p, sg_no S (sg_up S p)) else (sg_los S (2 ^ p.toNat), S)
noncomputable def sa_falls (S : mv_Mem) (u v : Int) : Int × mv_Mem :=
  if ¬ (0 ≤ u ∧ u < S 0 3) then (-1, sg_no S (-1)) else if sg_un v 0 9999 ≠ 0 then (sg_un v 0 9999, sg_no S (sg_un v 0 9999)) else (sg_fal S u (mv_up S 13 u.toNat v), S)
def sa_own (S : mv_Mem) (xy w : Int) : Int × mv_Mem :=
  if sg_ac S xy < 0 then (-1, sg_no S (-1)) else if sg_un w (-1) 3 ≠ 0 then (sg_un w (-1) 3, sg_no S (sg_un w (-1) 3)) else if S 3 (sg_ac S xy).toNat = w then (0, S) else (1, mv_up S 3 (sg_ac S xy).toNat w)
def sa_held (S : mv_Mem) (xy v : Int) : Int × mv_Mem :=
  if sg_ac S xy < 0 then (-1, sg_no S (-1)) else if S 4 (sg_ac S xy).toNat = (if v = 0 then 0 else 1) then (0, S) else (1, mv_up S 4 (sg_ac S xy).toNat (if v = 0 then 0 else 1))
noncomputable def sa_hold (S : mv_Mem) (w : Int) : Int × mv_Mem := if sg_un w 0 3 ≠ 0 then (sg_un w 0 3, sg_no S (sg_un w 0 3)) else ((sg_hd S w 80).2, S)
def sa_put (S : mv_Mem) (v : Int) : Int × mv_Mem :=
  if v < -1 then (-4, sg_no S (-4)) else if 99 < v ∨ 48 ≤ S 32 0 then (-6, sg_no S (-6)) else (S 32 0 + 1, mv_up (mv_up S 33 (S 32 0).toNat v) 32 0 (S 32 0 + 1))
noncomputable def sa_judge (S : mv_Mem) : Int × mv_Mem := (sg_jd S (S 32 0) (S 33), mv_up S 32 0 0)
def sa_image (S : mv_Mem) : Int × mv_Mem := (S 0 0 * S 0 1, fun a i => if a = 35 ∧ i = 0 then 1 else if 40 ≤ a ∧ a ≤ 63 then S (a - 40) i else S a i)
def sa_on (S : mv_Mem) : Int × mv_Mem := if S 35 0 = 0 then (-3, sg_no S (-3)) else (S 40 0 * S 40 1, fun a i => if a ≤ 23 then S (40 + a) i else S a i)
noncomputable def sa_count (S : mv_Mem) (w : Int) : Int × mv_Mem :=
  (if w = 0 then S 0 0 else if w = 1 then S 0 1 else if w = 2 then S 0 2 else if w = 3 then S 0 3 else if w = 4 then S 0 6 else if w = 5 then S 0 5 else if w = 6 then sg_was S else if w = 7 then sg_hel S
    else if w = 8 then S 30 0 else if w = 9 then S 32 0 else if 11 ≤ w ∧ w ≤ 16 then S 34 (w - 10).toNat else -9, S)
/-! what is the same of states that are the same in what the world is -/
def sg_ct (S : mv_Mem) : mv_Mem := fun a i => if a ≤ 23 then S a i else 0
theorem sg_sw_ct {S S' : mv_Mem} (h : sg_sw S S') : sg_ct S' = sg_ct S := by
  funext a i
  unfold sg_ct
  split
  · rename_i q
    exact h a i q
  · rfl
theorem sg_ys_ct (S : mv_Mem) (u : Nat) : ∀ n, sg_ys (sg_ct S) u n = sg_ys S u n
  | 0 => rfl
  | n + 1 => by
    show sg_ys (sg_ct S) u n + S 14 (6 * u + n) = sg_ys S u n + S 14 (6 * u + n)
    rw [sg_ys_ct S u n]
theorem sg_mn_ct (S : mv_Mem) (u : Nat) : sg_mn (sg_ct S) u = sg_mn S u := by
  show (if S 15 u = 0 then 0 else (sg_ys (sg_ct S) u (S 15 u).toNat).tdiv (S 15 u)) = _
  rw [sg_ys_ct]
  rfl
theorem sg_bid_ct (S : mv_Mem) (o k : Nat) : sg_bid (sg_ct S) o k = sg_bid S o k := by
  show sg_if (sg_cg S (o / 3) (sg_wo S o k)) (100 * (sg_yl S (o / 3) (S 1 k) * (S 16 o + sg_mn (sg_ct S) (o / 3)) - S 11 (o / 3) - S 13 (o / 3)) - sg_cr S (o / 3) (S 1 k) * sg_wo S o k) 0 = _
  rw [sg_mn_ct]
  rfl
theorem sg_g_ct (S : mv_Mem) (w : Int) (k : Nat) : ∀ n, sg_g (sg_ct S) w k n = sg_g S w k n
  | 0 => rfl
  | n + 1 => by
    show (if ((n % 3 : Nat) : Int) < S 0 2 ∧ (n : Int) ≠ w ∧ (sg_g (sg_ct S) w k n).2 < sg_bid (sg_ct S) n k then ((n : Int), sg_bid (sg_ct S) n k) else sg_g (sg_ct S) w k n) = (if ((n % 3 : Nat) : Int) < S 0 2 ∧ (n : Int) ≠ w ∧ (sg_g S w k n).2 < sg_bid S n k then ((n : Int), sg_bid S n k) else sg_g S w k n)
    rw [sg_g_ct S w k n, sg_bid_ct]
theorem sg_tk_ct (S : mv_Mem) (k : Nat) : sg_tk (sg_ct S) k = sg_tk S k := by
  show (if S 4 k = 0 then (sg_g (sg_ct S) (-1) k (3 * (S 0 3).toNat)).1 else -1) = _
  rw [sg_g_ct]
  rfl
theorem sg_sw_W {S S' M : mv_Mem} (h : sg_sw S S') (hW : sg_W S M) : sg_W S' M := by
  have h1 : sg_W (sg_ct S) M := hW
  rw [← sg_sw_ct h] at h1
  exact h1
theorem sg_sw_Bd {S S' M : mv_Mem} (h : sg_sw S S') (hB : sg_Bd S M) : sg_Bd S' M := by
  intro o k h1 h2 h3
  rw [← sg_bid_ct S', sg_sw_ct h, sg_bid_ct]
  have e0 : ∀ i, S' 0 i = S 0 i := fun i => h 0 i (by decide)
  rw [e0] at h1 h2
  have e : sg_pl S' k = sg_pl S k := by
    unfold sg_pl
    rw [e0]
  rw [e]
  exact hB o k h1 h2 (by unfold sg_ok at h3 ⊢; rw [← e0, ← e0]; exact h3)
theorem sg_sw_Tk {S S' M : mv_Mem} (h : sg_sw S S') (hT : sg_Tk S M) : sg_Tk S' M := by
  intro k h3
  rw [← sg_tk_ct S', sg_sw_ct h, sg_tk_ct]
  have e0 : ∀ i, S' 0 i = S 0 i := fun i => h 0 i (by decide)
  have e : sg_pl S' k = sg_pl S k := by
    unfold sg_pl
    rw [e0]
  rw [e]
  exact hT k (by unfold sg_ok at h3 ⊢; rw [← e0, ← e0]; exact h3)
theorem sg_sw_K {S S' M : mv_Mem} (h : sg_sw S S') (hK : sg_K S M) : sg_K S' M := by
  obtain ⟨k1, k2, k3, k4, k5, k6⟩ := hK
  exact ⟨sg_sw_C h k1, k2, k3, fun z => sg_sw_W h (k4 z), k5, fun z => ⟨sg_sw_Bd h (k6 z).1, sg_sw_Tk h (k6 z).2⟩⟩
theorem sg_ip_y {P : Prop} {a b : Int × mv_Mem} (h : P) : sg_ip P a b = a := if_pos h
theorem sg_ip_n {P : Prop} {a b : Int × mv_Mem} (h : ¬ P) : sg_ip P a b = b := if_neg h
