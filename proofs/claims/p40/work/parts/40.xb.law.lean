/-! THE LAW's CODE LIST IS ITS BYTES (by program: wip/p40/chkgen.py) -/
theorem okL_2 : (((mt_code (mv_r 226)).drop 180).take 90).all (mv_okE (mv_r 226)) = true := by decide +kernel
theorem okL_3 : (((mt_code (mv_r 226)).drop 270).take 90).all (mv_okE (mv_r 226)) = true := by decide +kernel
