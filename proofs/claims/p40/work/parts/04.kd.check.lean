/-! THE CODE LISTS ARE THE BYTES (by program: wip/p40/chkgen.py) -/
theorem ok_84 : mv_okM 84 = true := by decide +kernel
theorem oc_84 : mv_okC 84 655 = true := by decide +kernel
theorem ok_85 : mv_okM 85 = true := by decide +kernel
theorem oc_85 : mv_okC 85 33 = true := by decide +kernel
theorem ok_86 : mv_okM 86 = true := by decide +kernel
theorem oc_86 : mv_okC 86 707 = true := by decide +kernel
theorem ok_87 : mv_okM 87 = true := by decide +kernel
theorem oc_87 : mv_okC 87 717 = true := by decide +kernel
theorem ok_88 : mv_okM 88 = true := by decide +kernel
theorem oc_88 : mv_okC 88 423 = true := by decide +kernel
theorem ok_89 : mv_okM 89 = true := by decide +kernel
theorem oc_89 : mv_okC 89 736 = true := by decide +kernel
theorem ok_91 : mv_okM 91 = true := by decide +kernel
theorem oc_91 : mv_okC 91 753 = true := by decide +kernel
theorem ok_93 : mv_okM 93 = true := by decide +kernel
theorem oc_93 : mv_okC 93 757 = true := by decide +kernel
theorem ok_94 : mv_okM 94 = true := by decide +kernel
theorem oc_94 : mv_okC 94 761 = true := by decide +kernel
theorem ok_95 : mv_okM 95 = true := by decide +kernel
theorem oc_95 : mv_okC 95 769 = true := by decide +kernel
theorem ok_96 : mv_okM 96 = true := by decide +kernel
theorem oc_96 : mv_okC 96 773 = true := by decide +kernel
theorem ok_97 : mv_okM 97 = true := by decide +kernel
theorem oc_97 : mv_okC 97 439 = true := by decide +kernel
theorem ok_98 : mv_okM 98 = true := by decide +kernel
theorem oc_98 : mv_okC 98 443 = true := by decide +kernel
theorem ok_100 : mv_okM 100 = true := by decide +kernel
theorem oc_100 : mv_okC 100 458 = true := by decide +kernel
theorem ok_101 : mv_okM 101 = true := by decide +kernel
theorem oc_101 : mv_okC 101 528 = true := by decide +kernel
theorem ok_103 : mv_okM 103 = true := by decide +kernel
theorem oc_103 : mv_okC 103 551 = true := by decide +kernel
theorem ok_106 : mv_okM 106 = true := by decide +kernel
theorem oc_106 : mv_okC 106 566 = true := by decide +kernel
theorem ok_117 : mv_okM 117 = true := by decide +kernel
theorem oc_117 : mv_okC 117 610 = true := by decide +kernel
theorem ok_118 : mv_okM 118 = true := by decide +kernel
theorem oc_118 : mv_okC 118 623 = true := by decide +kernel
theorem ok_119 : mv_okM 119 = true := by decide +kernel
theorem oc_119 : mv_okC 119 627 = true := by decide +kernel
