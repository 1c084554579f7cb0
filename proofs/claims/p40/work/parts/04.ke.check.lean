/-! THE CODE LISTS ARE THE BYTES (by program: wip/p40/chkgen.py) -/
theorem ok_120 : mv_okM 120 = true := by decide +kernel
theorem oc_120 : mv_okC 120 631 = true := by decide +kernel
theorem ok_123 : mv_okM 123 = true := by decide +kernel
theorem oc_123 : mv_okC 123 651 = true := by decide +kernel
theorem ok_124 : mv_okM 124 = true := by decide +kernel
theorem oc_124 : mv_okC 124 674 = true := by decide +kernel
theorem ok_125 : mv_okM 125 = true := by decide +kernel
theorem oc_125 : mv_okC 125 682 = true := by decide +kernel
theorem ok_126 : mv_okM 126 = true := by decide +kernel
theorem oc_126 : mv_okC 126 431 = true := by decide +kernel
theorem ok_127 : mv_okM 127 = true := by decide +kernel
theorem oc_127 : mv_okC 127 532 = true := by decide +kernel
theorem ok_128 : mv_okM 128 = true := by decide +kernel
theorem oc_128 : mv_okC 128 446 = true := by decide +kernel
theorem ok_129 : mv_okM 129 = true := by decide +kernel
theorem oc_129 : mv_okC 129 450 = true := by decide +kernel
theorem ok_130 : mv_okM 130 = true := by decide +kernel
theorem oc_130 : mv_okC 130 555 = true := by decide +kernel
theorem ok_131 : mv_okM 131 = true := by decide +kernel
theorem oc_131 : mv_okC 131 558 = true := by decide +kernel
theorem ok_222 : mv_okM 222 = true := by decide +kernel
theorem oc_222 : mv_okC 222 590 = true := by decide +kernel
theorem ok_224 : mv_okM 224 = true := by decide +kernel
theorem oc_224 : mv_okC 224 597 = true := by decide +kernel
theorem ok_225 : mv_okM 225 = true := by decide +kernel
theorem oc_225 : mv_okC 225 594 = true := by decide +kernel
theorem ok_227 : mv_okM 227 = true := by decide +kernel
theorem oc_227 : mv_okC 227 693 = true := by decide +kernel
theorem ok_228 : mv_okM 228 = true := by decide +kernel
theorem oc_228 : mv_okC 228 696 = true := by decide +kernel
theorem ok_229 : mv_okM 229 = true := by decide +kernel
theorem oc_229 : mv_okC 229 700 = true := by decide +kernel
theorem ok_230 : mv_okM 230 = true := by decide +kernel
theorem oc_230 : mv_okC 230 703 = true := by decide +kernel
