/-! THE LAW's CODE LIST IS ITS BYTES (by program: wip/p40/chkgen.py) -/
theorem mv_all_td {α : Type} (p : α → Bool) (l : List α) (n : Nat) (h1 : (l.take n).all p = true) (h2 : (l.drop n).all p = true) : l.all p = true := by
  have h := List.take_append_drop n l
  rw [← h, List.all_append, h1, h2]
  rfl
theorem okL : (mt_code (mv_r 226)).all (mv_okE (mv_r 226)) = true := by
  have e3 : ((mt_code (mv_r 226)).drop 270).all (mv_okE (mv_r 226)) = true := mv_all_td _ _ 90 okL_3 (by rw [List.drop_drop, List.drop_of_length_le (by decide +kernel)]; rfl)
  have e2 : ((mt_code (mv_r 226)).drop 180).all (mv_okE (mv_r 226)) = true := mv_all_td _ _ 90 okL_2 (by rw [List.drop_drop]; exact e3)
  have e1 : ((mt_code (mv_r 226)).drop 90).all (mv_okE (mv_r 226)) = true := mv_all_td _ _ 90 okL_1 (by rw [List.drop_drop]; exact e2)
  have e0 : ((mt_code (mv_r 226)).drop 0).all (mv_okE (mv_r 226)) = true := mv_all_td _ _ 90 okL_0 (by rw [List.drop_drop]; exact e1)
  rw [List.drop_zero] at e0
  exact e0
theorem ok_226 : mv_okM 226 = true := by
  unfold mv_okM
  rw [okL, show mv_ch (mt_code (mv_r 226)) = true by decide +kernel]
  rfl
