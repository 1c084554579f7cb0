/-! THE CODE LISTS ARE THE BYTES (by program: wip/whole/chkgen.py) -/
theorem ok_60 : mv_okM 60 = true := by decide +kernel
theorem oc_60 : mv_okC 60 1010 = true := by decide +kernel
theorem ok_61 : mv_okM 61 = true := by decide +kernel
theorem oc_61 : mv_okC 61 632 = true := by decide +kernel
theorem ok_62 : mv_okM 62 = true := by decide +kernel
theorem oc_62 : mv_okC 62 636 = true := by decide +kernel
theorem ok_63 : mv_okM 63 = true := by decide +kernel
theorem oc_63 : mv_okC 63 628 = true := by decide +kernel
theorem ok_64 : mv_okM 64 = true := by decide +kernel
theorem oc_64 : mv_okC 64 641 = true := by decide +kernel
theorem ok_65 : mv_okM 65 = true := by decide +kernel
theorem oc_65 : mv_okC 65 624 = true := by decide +kernel
theorem ok_66 : mv_okM 66 = true := by decide +kernel
theorem oc_66 : mv_okC 66 752 = true := by decide +kernel
theorem ok_67 : mv_okM 67 = true := by decide +kernel
theorem oc_67 : mv_okC 67 335 = true := by decide +kernel
theorem ok_68 : mv_okM 68 = true := by decide +kernel
theorem oc_68 : mv_okC 68 594 = true := by decide +kernel
theorem ok_69 : mv_okM 69 = true := by decide +kernel
theorem oc_69 : mv_okC 69 608 = true := by decide +kernel
theorem ok_70 : mv_okM 70 = true := by decide +kernel
theorem oc_70 : mv_okC 70 653 = true := by decide +kernel
theorem ok_71 : mv_okM 71 = true := by decide +kernel
theorem oc_71 : mv_okC 71 599 = true := by decide +kernel
theorem ok_72 : mv_okM 72 = true := by decide +kernel
theorem oc_72 : mv_okC 72 604 = true := by decide +kernel
theorem ok_73 : mv_okM 73 = true := by decide +kernel
theorem oc_73 : mv_okC 73 420 = true := by decide +kernel
theorem ok_74 : mv_okM 74 = true := by decide +kernel
theorem oc_74 : mv_okC 74 891 = true := by decide +kernel
theorem ok_75 : mv_okM 75 = true := by decide +kernel
theorem oc_75 : mv_okC 75 922 = true := by decide +kernel
theorem ok_76 : mv_okM 76 = true := by decide +kernel
theorem oc_76 : mv_okC 76 896 = true := by decide +kernel
theorem ok_77 : mv_okM 77 = true := by decide +kernel
theorem oc_77 : mv_okC 77 939 = true := by decide +kernel
theorem ok_78 : mv_okM 78 = true := by decide +kernel
theorem oc_78 : mv_okC 78 927 = true := by decide +kernel
theorem ok_79 : mv_okM 79 = true := by decide +kernel
theorem oc_79 : mv_okC 79 931 = true := by decide +kernel
theorem ok_80 : mv_okM 80 = true := by decide +kernel
theorem oc_80 : mv_okC 80 901 = true := by decide +kernel
theorem ok_81 : mv_okM 81 = true := by decide +kernel
theorem oc_81 : mv_okC 81 912 = true := by decide +kernel
theorem ok_82 : mv_okM 82 = true := by decide +kernel
theorem oc_82 : mv_okC 82 905 = true := by decide +kernel
theorem ok_83 : mv_okM 83 = true := by decide +kernel
theorem oc_83 : mv_okC 83 138 = true := by decide +kernel
theorem ok_84 : mv_okM 84 = true := by decide +kernel
theorem oc_84 : mv_okC 84 1001 = true := by decide +kernel
theorem ok_85 : mv_okM 85 = true := by decide +kernel
theorem oc_85 : mv_okC 85 93 = true := by decide +kernel
theorem ok_86 : mv_okM 86 = true := by decide +kernel
theorem oc_86 : mv_okC 86 507 = true := by decide +kernel
theorem ok_87 : mv_okM 87 = true := by decide +kernel
theorem oc_87 : mv_okC 87 520 = true := by decide +kernel
theorem ok_88 : mv_okM 88 = true := by decide +kernel
theorem oc_88 : mv_okC 88 543 = true := by decide +kernel
theorem ok_89 : mv_okM 89 = true := by decide +kernel
theorem oc_89 : mv_okC 89 555 = true := by decide +kernel
theorem ok_90 : mv_okM 90 = true := by decide +kernel
theorem oc_90 : mv_okC 90 575 = true := by decide +kernel
theorem ok_91 : mv_okM 91 = true := by decide +kernel
theorem oc_91 : mv_okC 91 582 = true := by decide +kernel
theorem ok_92 : mv_okM 92 = true := by decide +kernel
theorem oc_92 : mv_okC 92 586 = true := by decide +kernel
theorem ok_93 : mv_okM 93 = true := by decide +kernel
theorem oc_93 : mv_okC 93 657 = true := by decide +kernel
theorem ok_94 : mv_okM 94 = true := by decide +kernel
theorem oc_94 : mv_okC 94 661 = true := by decide +kernel
theorem ok_95 : mv_okM 95 = true := by decide +kernel
theorem oc_95 : mv_okC 95 673 = true := by decide +kernel
theorem ok_96 : mv_okM 96 = true := by decide +kernel
theorem oc_96 : mv_okC 96 681 = true := by decide +kernel
theorem ok_97 : mv_okM 97 = true := by decide +kernel
theorem oc_97 : mv_okC 97 692 = true := by decide +kernel
theorem ok_98 : mv_okM 98 = true := by decide +kernel
theorem oc_98 : mv_okC 98 696 = true := by decide +kernel
theorem ok_99 : mv_okM 99 = true := by decide +kernel
theorem oc_99 : mv_okC 99 700 = true := by decide +kernel
theorem ok_100 : mv_okM 100 = true := by decide +kernel
theorem oc_100 : mv_okC 100 709 = true := by decide +kernel
theorem ok_101 : mv_okM 101 = true := by decide +kernel
theorem oc_101 : mv_okC 101 713 = true := by decide +kernel
theorem ok_102 : mv_okM 102 = true := by decide +kernel
theorem oc_102 : mv_okC 102 731 = true := by decide +kernel
theorem ok_103 : mv_okM 103 = true := by decide +kernel
theorem oc_103 : mv_okC 103 740 = true := by decide +kernel
theorem ok_104 : mv_okM 104 = true := by decide +kernel
theorem oc_104 : mv_okC 104 748 = true := by decide +kernel
theorem ok_105 : mv_okM 105 = true := by decide +kernel
theorem oc_105 : mv_okC 105 756 = true := by decide +kernel
theorem ok_106 : mv_okM 106 = true := by decide +kernel
theorem oc_106 : mv_okC 106 788 = true := by decide +kernel
theorem ok_107 : mv_okM 107 = true := by decide +kernel
theorem oc_107 : mv_okC 107 802 = true := by decide +kernel
theorem ok_108 : mv_okM 108 = true := by decide +kernel
theorem oc_108 : mv_okC 108 842 = true := by decide +kernel
theorem ok_109 : mv_okM 109 = true := by decide +kernel
theorem oc_109 : mv_okC 109 806 = true := by decide +kernel
theorem ok_110 : mv_okM 110 = true := by decide +kernel
theorem oc_110 : mv_okC 110 846 = true := by decide +kernel
theorem ok_111 : mv_okM 111 = true := by decide +kernel
theorem oc_111 : mv_okC 111 861 = true := by decide +kernel
theorem ok_112 : mv_okM 112 = true := by decide +kernel
theorem oc_112 : mv_okC 112 874 = true := by decide +kernel
theorem ok_113 : mv_okM 113 = true := by decide +kernel
theorem oc_113 : mv_okC 113 883 = true := by decide +kernel
theorem ok_114 : mv_okM 114 = true := by decide +kernel
theorem oc_114 : mv_okC 114 918 = true := by decide +kernel
theorem ok_115 : mv_okM 115 = true := by decide +kernel
theorem oc_115 : mv_okC 115 935 = true := by decide +kernel
theorem ok_116 : mv_okM 116 = true := by decide +kernel
theorem oc_116 : mv_okC 116 887 = true := by decide +kernel
theorem ok_117 : mv_okM 117 = true := by decide +kernel
theorem oc_117 : mv_okC 117 944 = true := by decide +kernel
theorem ok_118 : mv_okM 118 = true := by decide +kernel
theorem oc_118 : mv_okC 118 953 = true := by decide +kernel
theorem ok_119 : mv_okM 119 = true := by decide +kernel
theorem oc_119 : mv_okC 119 957 = true := by decide +kernel
