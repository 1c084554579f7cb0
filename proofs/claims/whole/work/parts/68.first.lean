/-! THE FIRST STATE -/
def sg_0 : mv_Mem := fun a i => if a = 0 then (if i = 0 ∨ i = 1 then 1 else 0) else if a = 3 then -1 else if a = 6 then (if i = 0 then 10 else if i = 1 then 6 else if i = 2 then 3 else if i = 3 then 2 else 0) else 0
theorem sg_0_z {a i : Nat} (h0 : a ≠ 0) (h3 : a ≠ 3) (h6 : a ≠ 6) : sg_0 a i = 0 := by
  unfold sg_0
  rw [if_neg h0, if_neg h3, if_neg h6]
theorem sg_0_B {a n : Nat} {lo hi : Int} (h0 : a ≠ 0) (h3 : a ≠ 3) (h6 : a ≠ 6) (h : lo ≤ 0 ∧ 0 ≤ hi) : sg_B sg_0 a n lo hi := fun i _ => by
  rw [sg_0_z h0 h3 h6]
  exact h
theorem sg_0_ok {k : Nat} (h : sg_ok sg_0 k) : k = 0 := by
  obtain ⟨h1, h2⟩ := h
  have h1 : ((k % 8 : Nat) : Int) < 1 := h1
  have h2 : ((k / 8 : Nat) : Int) < 1 := h2
  omega
theorem sg_0_oo : sg_oo 0 sg_0 := by
  refine ⟨⟨⟨by decide, by decide, by decide, by decide, by decide, by decide, by decide⟩, ⟨sg_0_B (by decide) (by decide) (by decide) (by decide), sg_0_B (by decide) (by decide) (by decide) (by decide), fun i _ => (by decide : -1 ≤ (-1 : Int) ∧ (-1 : Int) ≤ 3), sg_0_B (by decide) (by decide) (by decide) (by decide), sg_0_B (by decide) (by decide) (by decide) (by decide), fun i hi => ?_⟩, fun m hm => ?_, fun m m' hm => ?_, ⟨sg_0_B (by decide) (by decide) (by decide) (by decide), sg_0_B (by decide) (by decide) (by decide) (by decide), sg_0_B (by decide) (by decide) (by decide) (by decide), sg_0_B (by decide) (by decide) (by decide) (by decide), sg_0_B (by decide) (by decide) (by decide) (by decide), sg_0_B (by decide) (by decide) (by decide) (by decide), sg_0_B (by decide) (by decide) (by decide) (by decide), sg_0_B (by decide) (by decide) (by decide) (by decide)⟩, ⟨sg_0_B (by decide) (by decide) (by decide) (by decide), sg_0_B (by decide) (by decide) (by decide) (by decide), sg_0_B (by decide) (by decide) (by decide) (by decide), sg_0_B (by decide) (by decide) (by decide) (by decide)⟩, fun p hp => ?_, fun k d _ _ _ => ?_, fun u _ _ => sg_0_z (by decide) (by decide) (by decide), fun u _ _ => ⟨sg_0_z (by decide) (by decide) (by decide), sg_0_z (by decide) (by decide) (by decide)⟩⟩, by decide, fun i => ?_, by decide, fun i _ => ?_, Or.inl rfl, fun z => ?_⟩
  · rcases (show i = 0 ∨ i = 1 ∨ i = 2 ∨ i = 3 by omega) with rfl | rfl | rfl | rfl <;> decide
  · have hm : (m : Int) < 0 := hm
    omega
  · have hm : (m : Int) < 0 := hm
    omega
  · have hp : (p : Int) < 0 := hp
    omega
  · rw [sg_0_z (by decide) (by decide) (by decide), sg_0_z (by decide) (by decide) (by decide)]
    rfl
  · rw [sg_0_z (by decide) (by decide) (by decide)]
    decide
  · rw [sg_0_z (by decide) (by decide) (by decide)]
    decide
  · have z : (0 : Int) = 1 := z
    omega
section ST
variable {M0 M : mv_Mem}
theorem sg_0_CC (h : cf_M M0 M) : sg_CC sg_0 M := by
  obtain ⟨f0, l12, l49, l93, v2_1, v4_1, v8_0, v8_1, v8_2, v8_3, v8_4, v16_0, v16_1, v16_2, v16_3, v17_0, v17_1, v30_0, v6_6, v6_7, v45_0, v45_1, v45_2, v45_3, v45_4, v53_0, v53_1, v53_2, v53_3, v54_0, v54_1, v67_0, v1_8, v79_4, v79_5, v88_8, v88_9, v99_0, v99_1, v99_2, v99_3, v101_0, v101_1, v101_2, v101_3, v102_0, v102_1, v102_2, v102_3, z0, z1, z2, z4, z6, z8, z16, z17, z30, z45, z53, z54, z67, z79, z88, z99, z101, z102⟩ := h
  have s0 : ∀ a i, a ≠ 0 → a ≠ 3 → a ≠ 6 → sg_0 a i = 0 := fun a i h0 h3 h6 => sg_0_z h0 h3 h6
  have zz : ∀ a i, (a = 9 ∨ a = 10 ∨ a = 11 ∨ a = 13 ∨ a = 14 ∨ (18 ≤ a ∧ a ≤ 29) ∨ a = 87) → M a i = 0 := fun a i h => z0 a i (by omega) (by omega) (by omega) (by omega) (by omega) (by omega) (by omega) (by omega) (by omega) (by omega) (by omega) (by omega) (by omega) (by omega) (by omega) (by omega) (by omega) (by omega) (by omega) (by omega) (by omega)
  have hC : sg_C 0 sg_0 M := by
    refine ⟨⟨v8_0, v8_1, v8_2, v8_3, v8_4⟩, fun k hk => ?_, fun m hm => ?_, fun i hi => ?_, ⟨v17_0, v17_1⟩, fun i hi => ?_, fun i hi => ?_, fun i hi => ?_, v30_0, fun p hp => ?_⟩
    · have e := sg_0_ok hk
      subst e
      exact ⟨zz 9 0 (by decide), zz 10 0 (by decide), zz 11 0 (by decide), l12 0 (by decide), zz 13 0 (by decide), fun d hd => zz 14 _ (by decide)⟩
    · have hm : (m : Int) < 0 := hm
      omega
    · rcases (show i = 0 ∨ i = 1 ∨ i = 2 ∨ i = 3 by omega) with rfl | rfl | rfl | rfl
      · exact v16_0
      · exact v16_1
      · exact v16_2
      · exact v16_3
    · exact ⟨zz 18 i (by decide), zz 19 i (by decide), zz 20 i (by decide), zz 21 i (by decide), zz 22 i (by decide), zz 23 i (by decide), zz 24 i (by decide), zz 25 i (by decide)⟩
    · exact ⟨zz 26 i (by decide), zz 27 i (by decide)⟩
    · exact ⟨zz 28 i (by decide), zz 29 i (by decide)⟩
    · have hp : (p : Int) < 0 := hp
      omega
  refine ⟨sg_K_0 hC v6_6 v6_7, v2_1, fun i hi => ?_, v4_1, fun i hi => ?_, fun i hi => zz 87 i (by decide), v1_8, fun z => ?_⟩
  · have hi : (i : Int) < 0 := hi
    omega
  · have hi : (i : Int) < 0 := hi
    omega
  · have z : (0 : Int) = 1 := z
    omega
theorem sg_0_MM (h : cf_M M0 M) : sg_MM sg_0 M := by
  obtain ⟨f0, l12, l49, l93, v2_1, v4_1, v8_0, v8_1, v8_2, v8_3, v8_4, v16_0, v16_1, v16_2, v16_3, v17_0, v17_1, v30_0, v6_6, v6_7, v45_0, v45_1, v45_2, v45_3, v45_4, v53_0, v53_1, v53_2, v53_3, v54_0, v54_1, v67_0, v1_8, v79_4, v79_5, v88_8, v88_9, v99_0, v99_1, v99_2, v99_3, v101_0, v101_1, v101_2, v101_3, v102_0, v102_1, v102_2, v102_3, z0, z1, z2, z4, z6, z8, z16, z17, z30, z45, z53, z54, z67, z79, z88, z99, z101, z102⟩ := h
  have zz : ∀ a i, (a = 89 ∨ a = 91 ∨ a = 92 ∨ a = 95 ∨ (105 ≤ a ∧ a ≤ 116)) → M a i = 0 := fun a i h => z0 a i (by omega) (by omega) (by omega) (by omega) (by omega) (by omega) (by omega) (by omega) (by omega) (by omega) (by omega) (by omega) (by omega) (by omega) (by omega) (by omega) (by omega) (by omega) (by omega) (by omega) (by omega)
  refine ⟨⟨⟨v88_8, v88_9, z88 23 (by decide) (by decide), z88 36 (by decide) (by decide), z88 37 (by decide) (by decide), z88 55 (by decide) (by decide)⟩, fun k hk => ?_, fun k _ _ => zz 95 k (by decide), fun i hi => ?_, ⟨⟨v101_0, v101_1, v101_2, v101_3⟩, v102_0, v102_1, v102_2, v102_3⟩, fun m hm => ?_, fun i hi => ?_, fun i hi => zz 111 i (by decide), fun i hi => ?_, fun i hi => ?_, fun p hp => ?_⟩, ⟨by decide, z88 17 (by decide) (by decide), fun r hr => ?_, fun k d _ _ _ hne => ?_, fun r r' k k' hr => ?_⟩, z88 7 (by decide) (by decide), fun i hi => ?_, z88 60 (by decide) (by decide), fun i hi => ?_, fun i hi => zz 89 i (by decide), z88 62 (by decide) (by decide), fun z => ?_⟩
  · have e := sg_0_ok hk
    subst e
    exact ⟨zz 91 0 (by decide), zz 92 0 (by decide), l93 0 (by decide), zz 95 0 (by decide)⟩
  · rcases (show i = 0 ∨ i = 1 ∨ i = 2 ∨ i = 3 by omega) with rfl | rfl | rfl | rfl
    · exact v99_0
    · exact v99_1
    · exact v99_2
    · exact v99_3
  · have hm : (m : Int) < 0 := hm
    omega
  · exact ⟨zz 105 i (by decide), zz 106 i (by decide), zz 107 i (by decide), zz 108 i (by decide), zz 109 i (by decide), zz 110 i (by decide), zz 112 i (by decide)⟩
  · exact ⟨zz 113 i (by decide), zz 116 i (by decide)⟩
  · exact ⟨zz 114 i (by decide), zz 115 i (by decide)⟩
  · have hp : (p : Int) < 0 := hp
    omega
  · have hr : r < 0 := hr
    omega
  · exact absurd (sg_0_z (by decide) (by decide) (by decide)) hne
  · have hr : r < 0 := hr
    omega
  · have hi : (i : Int) < 0 := hi
    omega
  · have hi : (i : Int) < 0 := hi
    omega
  · have z : (0 : Int) = 1 := z
    omega
end ST
