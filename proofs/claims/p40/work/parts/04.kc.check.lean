/-! THE CODE LISTS ARE THE BYTES (by program: wip/p40/chkgen.py) -/
theorem ok_54 : mv_okM 54 = true := by decide +kernel
theorem oc_54 : mv_okC 54 574 = true := by decide +kernel
theorem ok_55 : mv_okM 55 = true := by decide +kernel
theorem oc_55 : mv_okC 55 635 = true := by decide +kernel
theorem ok_56 : mv_okM 56 = true := by decide +kernel
theorem oc_56 : mv_okC 56 642 = true := by decide +kernel
theorem ok_57 : mv_okM 57 = true := by decide +kernel
theorem oc_57 : mv_okC 57 157 = true := by decide +kernel
theorem ok_58 : mv_okM 58 = true := by decide +kernel
theorem oc_58 : mv_okC 58 765 = true := by decide +kernel
theorem ok_59 : mv_okM 59 = true := by decide +kernel
theorem oc_59 : mv_okC 59 562 = true := by decide +kernel
theorem ok_60 : mv_okM 60 = true := by decide +kernel
theorem oc_60 : mv_okC 60 664 = true := by decide +kernel
theorem ok_61 : mv_okM 61 = true := by decide +kernel
theorem oc_61 : mv_okC 61 507 = true := by decide +kernel
theorem ok_62 : mv_okM 62 = true := by decide +kernel
theorem oc_62 : mv_okC 62 511 = true := by decide +kernel
theorem ok_63 : mv_okM 63 = true := by decide +kernel
theorem oc_63 : mv_okC 63 503 = true := by decide +kernel
theorem ok_64 : mv_okM 64 = true := by decide +kernel
theorem oc_64 : mv_okC 64 516 = true := by decide +kernel
theorem ok_65 : mv_okM 65 = true := by decide +kernel
theorem oc_65 : mv_okC 65 499 = true := by decide +kernel
theorem ok_66 : mv_okM 66 = true := by decide +kernel
theorem oc_66 : mv_okC 66 605 = true := by decide +kernel
theorem ok_67 : mv_okM 67 = true := by decide +kernel
theorem oc_67 : mv_okC 67 261 = true := by decide +kernel
theorem ok_68 : mv_okM 68 = true := by decide +kernel
theorem oc_68 : mv_okC 68 466 = true := by decide +kernel
theorem ok_69 : mv_okM 69 = true := by decide +kernel
theorem oc_69 : mv_okC 69 483 = true := by decide +kernel
theorem ok_71 : mv_okM 71 = true := by decide +kernel
theorem oc_71 : mv_okC 71 474 = true := by decide +kernel
theorem ok_72 : mv_okM 72 = true := by decide +kernel
theorem oc_72 : mv_okC 72 479 = true := by decide +kernel
theorem ok_73 : mv_okM 73 = true := by decide +kernel
theorem oc_73 : mv_okC 73 340 = true := by decide +kernel
theorem ok_83 : mv_okM 83 = true := by decide +kernel
theorem oc_83 : mv_okC 83 78 = true := by decide +kernel
