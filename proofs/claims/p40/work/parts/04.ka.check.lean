/-! THE CODE LISTS ARE THE BYTES (by program: wip/p40/chkgen.py) -/
theorem ok_0 : mv_okM 0 = true := by decide +kernel
theorem oc_0 : mv_okC 0 84 = true := by decide +kernel
theorem ok_1 : mv_okM 1 = true := by decide +kernel
theorem oc_1 : mv_okC 1 728 = true := by decide +kernel
theorem ok_2 : mv_okM 2 = true := by decide +kernel
theorem oc_2 : mv_okC 2 732 = true := by decide +kernel
theorem ok_3 : mv_okM 3 = true := by decide +kernel
theorem oc_3 : mv_okC 3 659 = true := by decide +kernel
theorem ok_4 : mv_okM 4 = true := by decide +kernel
theorem oc_4 : mv_okC 4 427 = true := by decide +kernel
theorem ok_5 : mv_okM 5 = true := by decide +kernel
theorem oc_5 : mv_okC 5 470 = true := by decide +kernel
theorem ok_6 : mv_okM 6 = true := by decide +kernel
theorem oc_6 : mv_okC 6 740 = true := by decide +kernel
theorem ok_7 : mv_okM 7 = true := by decide +kernel
theorem oc_7 : mv_okC 7 745 = true := by decide +kernel
theorem ok_8 : mv_okM 8 = true := by decide +kernel
theorem oc_8 : mv_okC 8 749 = true := by decide +kernel
theorem ok_9 : mv_okM 9 = true := by decide +kernel
theorem oc_9 : mv_okC 9 435 = true := by decide +kernel
theorem ok_10 : mv_okM 10 = true := by decide +kernel
theorem oc_10 : mv_okC 10 690 = true := by decide +kernel
theorem ok_11 : mv_okM 11 = true := by decide +kernel
theorem oc_11 : mv_okC 11 72 = true := by decide +kernel
theorem ok_12 : mv_okM 12 = true := by decide +kernel
theorem oc_12 : mv_okC 12 678 = true := by decide +kernel
theorem ok_13 : mv_okM 13 = true := by decide +kernel
theorem oc_13 : mv_okC 13 454 = true := by decide +kernel
theorem ok_14 : mv_okM 14 = true := by decide +kernel
theorem oc_14 : mv_okC 14 462 = true := by decide +kernel
theorem ok_15 : mv_okM 15 = true := by decide +kernel
theorem oc_15 : mv_okC 15 487 = true := by decide +kernel
theorem ok_16 : mv_okM 16 = true := by decide +kernel
theorem oc_16 : mv_okC 16 491 = true := by decide +kernel
theorem ok_17 : mv_okM 17 = true := by decide +kernel
theorem oc_17 : mv_okC 17 495 = true := by decide +kernel
theorem ok_18 : mv_okM 18 = true := by decide +kernel
theorem oc_18 : mv_okC 18 520 = true := by decide +kernel
theorem ok_19 : mv_okM 19 = true := by decide +kernel
theorem oc_19 : mv_okC 19 524 = true := by decide +kernel
