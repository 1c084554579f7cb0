/-! THE LAW's CODE LIST IS ITS BYTES (by program: wip/p40/chkgen.py) -/
theorem okL_0 : (((mt_code (mv_r 226)).drop 0).take 90).all (mv_okE (mv_r 226)) = true := by decide +kernel
theorem okL_1 : (((mt_code (mv_r 226)).drop 90).take 90).all (mv_okE (mv_r 226)) = true := by decide +kernel
