/-! THE LAW's CODE LIST IS ITS BYTES (by program: wip/whole/chkgen.py) -/
theorem okL_4 : (((mt_code (mv_r 226)).drop 360).take 90).all (mv_okE (mv_r 226)) = true := by decide +kernel
theorem okL_5 : (((mt_code (mv_r 226)).drop 450).take 90).all (mv_okE (mv_r 226)) = true := by decide +kernel
theorem okL_6 : (((mt_code (mv_r 226)).drop 540).take 90).all (mv_okE (mv_r 226)) = true := by decide +kernel
theorem okL_7 : (((mt_code (mv_r 226)).drop 630).take 90).all (mv_okE (mv_r 226)) = true := by decide +kernel
