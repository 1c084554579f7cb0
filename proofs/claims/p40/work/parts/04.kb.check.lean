/-! THE CODE LISTS ARE THE BYTES (by program: wip/p40/chkgen.py) -/
theorem ok_20 : mv_okM 20 = true := by decide +kernel
theorem oc_20 : mv_okC 20 541 = true := by decide +kernel
theorem ok_21 : mv_okM 21 = true := by decide +kernel
theorem oc_21 : mv_okC 21 545 = true := by decide +kernel
theorem ok_22 : mv_okM 22 = true := by decide +kernel
theorem oc_22 : mv_okC 22 537 = true := by decide +kernel
theorem ok_23 : mv_okM 23 = true := by decide +kernel
theorem oc_23 : mv_okC 23 646 = true := by decide +kernel
theorem ok_25 : mv_okM 25 = true := by decide +kernel
theorem oc_25 : mv_okC 25 619 = true := by decide +kernel
theorem ok_29 : mv_okM 29 = true := by decide +kernel
theorem oc_29 : mv_okC 29 686 = true := by decide +kernel
theorem ok_30 : mv_okM 30 = true := by decide +kernel
theorem oc_30 : mv_okC 30 614 = true := by decide +kernel
theorem ok_31 : mv_okM 31 = true := by decide +kernel
theorem oc_31 : mv_okC 31 221 = true := by decide +kernel
theorem ok_33 : mv_okM 33 = true := by decide +kernel
theorem oc_33 : mv_okC 33 669 = true := by decide +kernel
theorem ok_34 : mv_okM 34 = true := by decide +kernel
theorem oc_34 : mv_okC 34 350 = true := by decide +kernel
theorem ok_42 : mv_okM 42 = true := by decide +kernel
theorem oc_42 : mv_okC 42 58 = true := by decide +kernel
theorem ok_45 : mv_okM 45 = true := by decide +kernel
theorem oc_45 : mv_okC 45 41 = true := by decide +kernel
theorem ok_46 : mv_okM 46 = true := by decide +kernel
theorem oc_46 : mv_okC 46 711 = true := by decide +kernel
theorem ok_47 : mv_okM 47 = true := by decide +kernel
theorem oc_47 : mv_okC 47 721 = true := by decide +kernel
theorem ok_48 : mv_okM 48 = true := by decide +kernel
theorem oc_48 : mv_okC 48 724 = true := by decide +kernel
theorem ok_49 : mv_okM 49 = true := by decide +kernel
theorem oc_49 : mv_okC 49 321 = true := by decide +kernel
theorem ok_50 : mv_okM 50 = true := by decide +kernel
theorem oc_50 : mv_okC 50 578 = true := by decide +kernel
theorem ok_51 : mv_okM 51 = true := by decide +kernel
theorem oc_51 : mv_okC 51 601 = true := by decide +kernel
theorem ok_52 : mv_okM 52 = true := by decide +kernel
theorem oc_52 : mv_okC 52 583 = true := by decide +kernel
theorem ok_53 : mv_okM 53 = true := by decide +kernel
theorem oc_53 : mv_okC 53 570 = true := by decide +kernel
