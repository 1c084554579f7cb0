/-! THE CODE LISTS ARE THE BYTES (by program: wip/whole/chkgen.py) -/
theorem ok_0 : mv_okM 0 = true := by decide +kernel
theorem oc_0 : mv_okC 0 144 = true := by decide +kernel
theorem ok_1 : mv_okM 1 = true := by decide +kernel
theorem oc_1 : mv_okC 1 531 = true := by decide +kernel
theorem ok_2 : mv_okM 2 = true := by decide +kernel
theorem oc_2 : mv_okC 2 535 = true := by decide +kernel
theorem ok_3 : mv_okM 3 = true := by decide +kernel
theorem oc_3 : mv_okC 3 1005 = true := by decide +kernel
theorem ok_4 : mv_okM 4 = true := by decide +kernel
theorem oc_4 : mv_okC 4 547 = true := by decide +kernel
theorem ok_5 : mv_okM 5 = true := by decide +kernel
theorem oc_5 : mv_okC 5 563 = true := by decide +kernel
theorem ok_6 : mv_okM 6 = true := by decide +kernel
theorem oc_6 : mv_okC 6 559 = true := by decide +kernel
theorem ok_7 : mv_okM 7 = true := by decide +kernel
theorem oc_7 : mv_okC 7 567 = true := by decide +kernel
theorem ok_8 : mv_okM 8 = true := by decide +kernel
theorem oc_8 : mv_okC 8 571 = true := by decide +kernel
theorem ok_9 : mv_okM 9 = true := by decide +kernel
theorem oc_9 : mv_okC 9 551 = true := by decide +kernel
theorem ok_10 : mv_okM 10 = true := by decide +kernel
theorem oc_10 : mv_okC 10 1032 = true := by decide +kernel
theorem ok_11 : mv_okM 11 = true := by decide +kernel
theorem oc_11 : mv_okC 11 132 = true := by decide +kernel
theorem ok_12 : mv_okM 12 = true := by decide +kernel
theorem oc_12 : mv_okC 12 539 = true := by decide +kernel
theorem ok_13 : mv_okM 13 = true := by decide +kernel
theorem oc_13 : mv_okC 13 669 = true := by decide +kernel
theorem ok_14 : mv_okM 14 = true := by decide +kernel
theorem oc_14 : mv_okC 14 590 = true := by decide +kernel
theorem ok_15 : mv_okM 15 = true := by decide +kernel
theorem oc_15 : mv_okC 15 612 = true := by decide +kernel
theorem ok_16 : mv_okM 16 = true := by decide +kernel
theorem oc_16 : mv_okC 16 616 = true := by decide +kernel
theorem ok_17 : mv_okM 17 = true := by decide +kernel
theorem oc_17 : mv_okC 17 620 = true := by decide +kernel
theorem ok_18 : mv_okM 18 = true := by decide +kernel
theorem oc_18 : mv_okC 18 645 = true := by decide +kernel
theorem ok_19 : mv_okM 19 = true := by decide +kernel
theorem oc_19 : mv_okC 19 649 = true := by decide +kernel
theorem ok_20 : mv_okM 20 = true := by decide +kernel
theorem oc_20 : mv_okC 20 721 = true := by decide +kernel
theorem ok_21 : mv_okM 21 = true := by decide +kernel
theorem oc_21 : mv_okC 21 725 = true := by decide +kernel
theorem ok_22 : mv_okM 22 = true := by decide +kernel
theorem oc_22 : mv_okC 22 717 = true := by decide +kernel
theorem ok_23 : mv_okM 23 = true := by decide +kernel
theorem oc_23 : mv_okC 23 976 = true := by decide +kernel
theorem ok_24 : mv_okM 24 = true := by decide +kernel
theorem oc_24 : mv_okC 24 735 = true := by decide +kernel
theorem ok_25 : mv_okM 25 = true := by decide +kernel
theorem oc_25 : mv_okC 25 854 = true := by decide +kernel
theorem ok_26 : mv_okM 26 = true := by decide +kernel
theorem oc_26 : mv_okC 26 850 = true := by decide +kernel
theorem ok_27 : mv_okM 27 = true := by decide +kernel
theorem oc_27 : mv_okC 27 865 = true := by decide +kernel
theorem ok_28 : mv_okM 28 = true := by decide +kernel
theorem oc_28 : mv_okC 28 870 = true := by decide +kernel
theorem ok_29 : mv_okM 29 = true := by decide +kernel
theorem oc_29 : mv_okC 29 1028 = true := by decide +kernel
theorem ok_30 : mv_okM 30 = true := by decide +kernel
theorem oc_30 : mv_okC 30 948 = true := by decide +kernel
theorem ok_31 : mv_okM 31 = true := by decide +kernel
theorem oc_31 : mv_okC 31 287 = true := by decide +kernel
theorem ok_32 : mv_okM 32 = true := by decide +kernel
theorem oc_32 : mv_okC 32 879 = true := by decide +kernel
theorem ok_33 : mv_okM 33 = true := by decide +kernel
theorem oc_33 : mv_okC 33 1015 = true := by decide +kernel
theorem ok_34 : mv_okM 34 = true := by decide +kernel
theorem oc_34 : mv_okC 34 430 = true := by decide +kernel
theorem ok_35 : mv_okM 35 = true := by decide +kernel
theorem oc_35 : mv_okC 35 810 = true := by decide +kernel
theorem ok_36 : mv_okM 36 = true := by decide +kernel
theorem oc_36 : mv_okC 36 814 = true := by decide +kernel
theorem ok_37 : mv_okM 37 = true := by decide +kernel
theorem oc_37 : mv_okC 37 818 = true := by decide +kernel
theorem ok_38 : mv_okM 38 = true := by decide +kernel
theorem oc_38 : mv_okC 38 826 = true := by decide +kernel
theorem ok_39 : mv_okM 39 = true := by decide +kernel
theorem oc_39 : mv_okC 39 830 = true := by decide +kernel
theorem ok_40 : mv_okM 40 = true := by decide +kernel
theorem oc_40 : mv_okC 40 834 = true := by decide +kernel
theorem ok_41 : mv_okM 41 = true := by decide +kernel
theorem oc_41 : mv_okC 41 838 = true := by decide +kernel
theorem ok_42 : mv_okM 42 = true := by decide +kernel
theorem oc_42 : mv_okC 42 118 = true := by decide +kernel
theorem ok_43 : mv_okM 43 = true := by decide +kernel
theorem oc_43 : mv_okC 43 985 = true := by decide +kernel
theorem ok_44 : mv_okM 44 = true := by decide +kernel
theorem oc_44 : mv_okC 44 993 = true := by decide +kernel
theorem ok_45 : mv_okM 45 = true := by decide +kernel
theorem oc_45 : mv_okC 45 101 = true := by decide +kernel
theorem ok_46 : mv_okM 46 = true := by decide +kernel
theorem oc_46 : mv_okC 46 515 = true := by decide +kernel
theorem ok_47 : mv_okM 47 = true := by decide +kernel
theorem oc_47 : mv_okC 47 524 = true := by decide +kernel
theorem ok_48 : mv_okM 48 = true := by decide +kernel
theorem oc_48 : mv_okC 48 527 = true := by decide +kernel
theorem ok_49 : mv_okM 49 = true := by decide +kernel
theorem oc_49 : mv_okC 49 401 = true := by decide +kernel
theorem ok_50 : mv_okM 50 = true := by decide +kernel
theorem oc_50 : mv_okC 50 760 = true := by decide +kernel
theorem ok_51 : mv_okM 51 = true := by decide +kernel
theorem oc_51 : mv_okC 51 783 = true := by decide +kernel
theorem ok_52 : mv_okM 52 = true := by decide +kernel
theorem oc_52 : mv_okC 52 765 = true := by decide +kernel
theorem ok_53 : mv_okM 53 = true := by decide +kernel
theorem oc_53 : mv_okC 53 792 = true := by decide +kernel
theorem ok_54 : mv_okM 54 = true := by decide +kernel
theorem oc_54 : mv_okC 54 796 = true := by decide +kernel
theorem ok_55 : mv_okM 55 = true := by decide +kernel
theorem oc_55 : mv_okC 55 965 = true := by decide +kernel
theorem ok_56 : mv_okM 56 = true := by decide +kernel
theorem oc_56 : mv_okC 56 972 = true := by decide +kernel
theorem ok_57 : mv_okM 57 = true := by decide +kernel
theorem oc_57 : mv_okC 57 221 = true := by decide +kernel
theorem ok_58 : mv_okM 58 = true := by decide +kernel
theorem oc_58 : mv_okC 58 665 = true := by decide +kernel
theorem ok_59 : mv_okM 59 = true := by decide +kernel
theorem oc_59 : mv_okC 59 744 = true := by decide +kernel
