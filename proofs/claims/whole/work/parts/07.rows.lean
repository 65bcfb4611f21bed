set_option maxRecDepth 100000 in
theorem dk_0 : ct_0.all (pq_dc prog_11_method_50_code (some .int)) = true := by decide +kernel
set_option maxRecDepth 100000 in
theorem dk_1 : ct_1.all (pq_dc prog_8_method_5_code (some .long)) = true := by decide +kernel
set_option maxRecDepth 100000 in
theorem dk_2 : ct_2.all (pq_dc prog_8_method_3_code (some .long)) = true := by decide +kernel
set_option maxRecDepth 100000 in
theorem dk_3 : ct_3.all (pq_dc prog_8_method_4_code (some .long)) = true := by decide +kernel
set_option maxRecDepth 100000 in
theorem dk_4 : ct_4.all (pq_dc prog_8_method_2_code (some .boolean)) = true := by decide +kernel
set_option maxRecDepth 100000 in
theorem dk_5 : ct_5.all (pq_dc prog_8_method_10_code (some .int)) = true := by decide +kernel
set_option maxRecDepth 100000 in
theorem dk_6 : ct_6.all (pq_dc prog_8_method_8_code (some .long)) = true := by decide +kernel
set_option maxRecDepth 100000 in
theorem dk_7 : ct_7.all (pq_dc prog_8_method_9_code (some .int)) = true := by decide +kernel
set_option maxRecDepth 100000 in
theorem dk_8 : ct_8.all (pq_dc prog_8_method_6_code (some .long)) = true := by decide +kernel
set_option maxRecDepth 100000 in
theorem dk_9 : ct_9.all (pq_dc prog_8_method_7_code (some .int)) = true := by decide +kernel
set_option maxRecDepth 100000 in
theorem dk_10 : ct_10.all (pq_dc prog_2_method_1_code none) = true := by decide +kernel
set_option maxRecDepth 100000 in
theorem dk_11 : ct_11.all (pq_dc prog_2_method_4_code none) = true := by decide +kernel
set_option maxRecDepth 100000 in
theorem dk_12 : ct_12.all (pq_dc prog_2_method_3_code (some .int)) = true := by decide +kernel
set_option maxRecDepth 100000 in
theorem dk_13 : ct_13.all (pq_dc prog_2_method_2_code none) = true := by decide +kernel
set_option maxRecDepth 100000 in
theorem dk_14 : ct_14.all (pq_dc prog_2_method_7_code none) = true := by decide +kernel
set_option maxRecDepth 100000 in
theorem dk_15 : ct_15.all (pq_dc prog_2_method_6_code (some .int)) = true := by decide +kernel
set_option maxRecDepth 100000 in
theorem dk_16 : ct_16.all (pq_dc prog_2_method_5_code (some .boolean)) = true := by decide +kernel
set_option maxRecDepth 100000 in
theorem dk_17 : ct_17.all (pq_dc prog_2_method_9_code none) = true := by decide +kernel
set_option maxRecDepth 100000 in
theorem dk_18 : ct_18.all (pq_dc prog_2_method_8_code none) = true := by decide +kernel
set_option maxRecDepth 100000 in
theorem dk_19 : ct_19.all (pq_dc prog_3_method_1_code none) = true := by decide +kernel
set_option maxRecDepth 100000 in
theorem dk_20 : ct_20.all (pq_dc prog_3_method_2_code none) = true := by decide +kernel
set_option maxRecDepth 100000 in
theorem dk_21 : ct_21.all (pq_dc prog_3_method_4_code (some .boolean)) = true := by decide +kernel
set_option maxRecDepth 100000 in
theorem dk_22 : ct_22.all (pq_dc prog_3_method_5_code none) = true := by decide +kernel
set_option maxRecDepth 100000 in
theorem dk_23 : ct_23.all (pq_dc prog_3_method_7_code none) = true := by decide +kernel
set_option maxRecDepth 100000 in
theorem dk_24 : ct_24.all (pq_dc prog_3_method_6_code none) = true := by decide +kernel
set_option maxRecDepth 100000 in
theorem dk_25 : ct_25.all (pq_dc prog_3_method_8_code (some .int)) = true := by decide +kernel
set_option maxRecDepth 100000 in
theorem dk_26 : ct_26.all (pq_dc prog_3_method_3_code none) = true := by decide +kernel
set_option maxRecDepth 100000 in
theorem dk_27 : ct_27.all (pq_dc prog_3_method_9_code (some .int)) = true := by decide +kernel
set_option maxRecDepth 100000 in
theorem dk_28 : ct_28.all (pq_dc prog_5_method_1_code none) = true := by decide +kernel
set_option maxRecDepth 100000 in
theorem dk_29 : ct_29.all (pq_dc prog_5_method_3_code none) = true := by decide +kernel
set_option maxRecDepth 100000 in
theorem dk_30 : ct_30.all (pq_dc prog_5_method_6_code none) = true := by decide +kernel
set_option maxRecDepth 100000 in
theorem dk_31 : ct_31.all (pq_dc prog_5_method_4_code (some .int)) = true := by decide +kernel
set_option maxRecDepth 100000 in
theorem dk_32 : ct_32.all (pq_dc prog_5_method_5_code (some .int)) = true := by decide +kernel
set_option maxRecDepth 100000 in
theorem dk_33 : ct_33.all (pq_dc prog_5_method_8_code none) = true := by decide +kernel
set_option maxRecDepth 100000 in
theorem dk_34 : ct_34.all (pq_dc prog_5_method_7_code none) = true := by decide +kernel
set_option maxRecDepth 100000 in
theorem dk_35 : ct_35.all (pq_dc prog_5_method_9_code none) = true := by decide +kernel
set_option maxRecDepth 100000 in
theorem dk_36 : ct_36.all (pq_dc prog_7_method_1_code none) = true := by decide +kernel
set_option maxRecDepth 100000 in
theorem dk_37 : ct_37.all (pq_dc prog_7_method_2_code none) = true := by decide +kernel
set_option maxRecDepth 100000 in
theorem dk_38 : ct_38.all (pq_dc prog_7_method_3_code none) = true := by decide +kernel
set_option maxRecDepth 100000 in
theorem dk_39 : ct_39.all (pq_dc prog_7_method_6_code none) = true := by decide +kernel
set_option maxRecDepth 100000 in
theorem dk_40 : ct_40.all (pq_dc prog_7_method_7_code none) = true := by decide +kernel
set_option maxRecDepth 100000 in
theorem dk_41 : ct_41.all (pq_dc prog_7_method_8_code (some .int)) = true := by decide +kernel
set_option maxRecDepth 100000 in
theorem dk_42 : ct_42.all (pq_dc prog_7_method_9_code (some .int)) = true := by decide +kernel
set_option maxRecDepth 100000 in
theorem dk_43 : ct_43.all (pq_dc prog_7_method_4_code none) = true := by decide +kernel
set_option maxRecDepth 100000 in
theorem dk_44 : ct_44.all (pq_dc prog_7_method_5_code none) = true := by decide +kernel
set_option maxRecDepth 100000 in
theorem dk_45 : ct_45.all (pq_dc prog_4_method_1_code none) = true := by decide +kernel
set_option maxRecDepth 100000 in
theorem dk_46 : ct_46.all (pq_dc prog_4_method_4_code none) = true := by decide +kernel
set_option maxRecDepth 100000 in
theorem dk_47 : ct_47.all (pq_dc prog_4_method_2_code (some .int)) = true := by decide +kernel
set_option maxRecDepth 100000 in
theorem dk_48 : ct_48.all (pq_dc prog_4_method_3_code (some .boolean)) = true := by decide +kernel
set_option maxRecDepth 100000 in
theorem dk_49 : ct_49.all (pq_dc prog_6_method_1_code none) = true := by decide +kernel
set_option maxRecDepth 100000 in
theorem dk_50 : ct_50.all (pq_dc prog_6_method_3_code none) = true := by decide +kernel
set_option maxRecDepth 100000 in
theorem dk_51 : ct_51.all (pq_dc prog_6_method_4_code none) = true := by decide +kernel
set_option maxRecDepth 100000 in
theorem dk_52 : ct_52.all (pq_dc prog_6_method_7_code (some .int)) = true := by decide +kernel
set_option maxRecDepth 100000 in
theorem dk_53 : ct_53.all (pq_dc prog_6_method_2_code none) = true := by decide +kernel
set_option maxRecDepth 100000 in
theorem dk_54 : ct_54.all (pq_dc prog_6_method_5_code (some .boolean)) = true := by decide +kernel
set_option maxRecDepth 100000 in
theorem dk_55 : ct_55.all (pq_dc prog_6_method_9_code none) = true := by decide +kernel
set_option maxRecDepth 100000 in
theorem dk_56 : ct_56.all (pq_dc prog_6_method_10_code none) = true := by decide +kernel
set_option maxRecDepth 100000 in
theorem dk_57 : ct_57.all (pq_dc prog_6_method_6_code (some .int)) = true := by decide +kernel
set_option maxRecDepth 100000 in
theorem dk_58 : ct_58.all (pq_dc prog_6_method_11_code none) = true := by decide +kernel
set_option maxRecDepth 100000 in
theorem dk_59 : ct_59.all (pq_dc prog_6_method_12_code none) = true := by decide +kernel
set_option maxRecDepth 100000 in
theorem dk_60 : ct_60.all (pq_dc prog_6_method_8_code (some .long)) = true := by decide +kernel
set_option maxRecDepth 100000 in
theorem dk_61 : ct_61.all (pq_dc prog_6_method_13_code none) = true := by decide +kernel
set_option maxRecDepth 100000 in
theorem dk_62 : ct_62.all (pq_dc prog_1_method_1_code none) = true := by decide +kernel
set_option maxRecDepth 100000 in
theorem dk_63 : ct_63.all (pq_dc prog_1_method_2_code (some .int)) = true := by decide +kernel
set_option maxRecDepth 100000 in
theorem dk_64 : ct_64.all (pq_dc prog_1_method_33_code none) = true := by decide +kernel
set_option maxRecDepth 100000 in
theorem dk_65 : ct_65.all (pq_dc prog_1_method_34_code none) = true := by decide +kernel
set_option maxRecDepth 100000 in
theorem dk_66 : ct_66.all (pq_dc prog_1_method_3_code (some .int)) = true := by decide +kernel
set_option maxRecDepth 100000 in
theorem dk_67 : ct_67.all (pq_dc prog_1_method_31_code (some .boolean)) = true := by decide +kernel
set_option maxRecDepth 100000 in
theorem dk_68 : ct_68.all (pq_dc prog_1_method_4_code (some .int)) = true := by decide +kernel
set_option maxRecDepth 100000 in
theorem dk_69 : ct_69.all (pq_dc prog_1_method_30_code (some .int)) = true := by decide +kernel
set_option maxRecDepth 100000 in
theorem dk_70 : ct_70.all (pq_dc prog_1_method_37_code (some .long)) = true := by decide +kernel
set_option maxRecDepth 100000 in
theorem dk_71 : ct_71.all (pq_dc prog_1_method_38_code (some .long)) = true := by decide +kernel
set_option maxRecDepth 100000 in
theorem dk_72 : ct_72.all (pq_dc prog_1_method_5_code (some .int)) = true := by decide +kernel
set_option maxRecDepth 100000 in
theorem dk_73 : ct_73.all (pq_dc prog_1_method_6_code (some .int)) = true := by decide +kernel
set_option maxRecDepth 100000 in
theorem dk_74 : ct_74.all (pq_dc prog_1_method_7_code (some .int)) = true := by decide +kernel
set_option maxRecDepth 100000 in
theorem dk_75 : ct_75.all (pq_dc prog_1_method_32_code (some .boolean)) = true := by decide +kernel
set_option maxRecDepth 100000 in
theorem dk_76 : ct_76.all (pq_dc prog_1_method_8_code (some .int)) = true := by decide +kernel
set_option maxRecDepth 100000 in
theorem dk_77 : ct_77.all (pq_dc prog_1_method_9_code (some .int)) = true := by decide +kernel
set_option maxRecDepth 100000 in
theorem dk_78 : ct_78.all (pq_dc prog_1_method_10_code (some .int)) = true := by decide +kernel
set_option maxRecDepth 100000 in
theorem dk_79 : ct_79.all (pq_dc prog_1_method_11_code (some .int)) = true := by decide +kernel
set_option maxRecDepth 100000 in
theorem dk_80 : ct_80.all (pq_dc prog_1_method_12_code (some .int)) = true := by decide +kernel
set_option maxRecDepth 100000 in
theorem dk_81 : ct_81.all (pq_dc prog_1_method_13_code (some .int)) = true := by decide +kernel
set_option maxRecDepth 100000 in
theorem dk_82 : ct_82.all (pq_dc prog_1_method_14_code (some .int)) = true := by decide +kernel
set_option maxRecDepth 100000 in
theorem dk_83 : ct_83.all (pq_dc prog_1_method_15_code (some .int)) = true := by decide +kernel
set_option maxRecDepth 100000 in
theorem dk_84 : ct_84.all (pq_dc prog_1_method_16_code (some .int)) = true := by decide +kernel
set_option maxRecDepth 100000 in
theorem dk_85 : ct_85.all (pq_dc prog_1_method_17_code (some .int)) = true := by decide +kernel
set_option maxRecDepth 100000 in
theorem dk_86 : ct_86.all (pq_dc prog_1_method_18_code (some .int)) = true := by decide +kernel
set_option maxRecDepth 100000 in
theorem dk_87 : ct_87.all (pq_dc prog_1_method_19_code (some .int)) = true := by decide +kernel
set_option maxRecDepth 100000 in
theorem dk_88 : ct_88.all (pq_dc prog_1_method_20_code (some .int)) = true := by decide +kernel
set_option maxRecDepth 100000 in
theorem dk_89 : ct_89.all (pq_dc prog_1_method_21_code (some .int)) = true := by decide +kernel
set_option maxRecDepth 100000 in
theorem dk_90 : ct_90.all (pq_dc prog_1_method_22_code (some .int)) = true := by decide +kernel
set_option maxRecDepth 100000 in
theorem dk_91 : ct_91.all (pq_dc prog_1_method_35_code none) = true := by decide +kernel
set_option maxRecDepth 100000 in
theorem dk_92 : ct_92.all (pq_dc prog_1_method_23_code (some .int)) = true := by decide +kernel
set_option maxRecDepth 100000 in
theorem dk_93 : ct_93.all (pq_dc prog_1_method_24_code (some .int)) = true := by decide +kernel
set_option maxRecDepth 100000 in
theorem dk_94 : ct_94.all (pq_dc prog_1_method_25_code (some .int)) = true := by decide +kernel
set_option maxRecDepth 100000 in
theorem dk_95 : ct_95.all (pq_dc prog_1_method_26_code (some .int)) = true := by decide +kernel
set_option maxRecDepth 100000 in
theorem dk_96 : ct_96.all (pq_dc prog_1_method_36_code (some .int)) = true := by decide +kernel
set_option maxRecDepth 100000 in
theorem dk_97 : ct_97.all (pq_dc prog_1_method_27_code (some .int)) = true := by decide +kernel
set_option maxRecDepth 100000 in
theorem dk_98 : ct_98.all (pq_dc prog_1_method_28_code (some .int)) = true := by decide +kernel
set_option maxRecDepth 100000 in
theorem dk_99 : ct_99.all (pq_dc prog_1_method_29_code (some .int)) = true := by decide +kernel
set_option maxRecDepth 100000 in
theorem dk_100 : ct_100.all (pq_dc prog_10_method_1_code none) = true := by decide +kernel
set_option maxRecDepth 100000 in
theorem dk_101 : ct_101.all (pq_dc prog_10_method_7_code none) = true := by decide +kernel
set_option maxRecDepth 100000 in
theorem dk_102 : ct_102.all (pq_dc prog_10_method_5_code (some .int)) = true := by decide +kernel
set_option maxRecDepth 100000 in
theorem dk_103 : ct_103.all (pq_dc prog_10_method_10_code (some .int)) = true := by decide +kernel
set_option maxRecDepth 100000 in
theorem dk_104 : ct_104.all (pq_dc prog_10_method_2_code (some .boolean)) = true := by decide +kernel
set_option maxRecDepth 100000 in
theorem dk_105 : ct_105.all (pq_dc prog_10_method_8_code none) = true := by decide +kernel
set_option maxRecDepth 100000 in
theorem dk_106 : ct_106.all (pq_dc prog_10_method_12_code (some .int)) = true := by decide +kernel
set_option maxRecDepth 100000 in
theorem dk_107 : ct_107.all (pq_dc prog_10_method_3_code (some .boolean)) = true := by decide +kernel
set_option maxRecDepth 100000 in
theorem dk_108 : ct_108.all (pq_dc prog_10_method_11_code none) = true := by decide +kernel
set_option maxRecDepth 100000 in
theorem dk_109 : ct_109.all (pq_dc prog_10_method_9_code (some .boolean)) = true := by decide +kernel
set_option maxRecDepth 100000 in
theorem dk_110 : ct_110.all (pq_dc prog_10_method_14_code (some .int)) = true := by decide +kernel
set_option maxRecDepth 100000 in
theorem dk_111 : ct_111.all (pq_dc prog_10_method_6_code (some .int)) = true := by decide +kernel
set_option maxRecDepth 100000 in
theorem dk_112 : ct_112.all (pq_dc prog_10_method_15_code (some .int)) = true := by decide +kernel
set_option maxRecDepth 100000 in
theorem dk_113 : ct_113.all (pq_dc prog_10_method_16_code (some .int)) = true := by decide +kernel
set_option maxRecDepth 100000 in
theorem dk_114 : ct_114.all (pq_dc prog_10_method_4_code (some .boolean)) = true := by decide +kernel
set_option maxRecDepth 100000 in
theorem dk_115 : ct_115.all (pq_dc prog_10_method_17_code (some .int)) = true := by decide +kernel
set_option maxRecDepth 100000 in
theorem dk_116 : ct_116.all (pq_dc prog_10_method_18_code (some .int)) = true := by decide +kernel
set_option maxRecDepth 100000 in
theorem dk_117 : ct_117.all (pq_dc prog_10_method_20_code (some .int)) = true := by decide +kernel
set_option maxRecDepth 100000 in
theorem dk_118 : ct_118.all (pq_dc prog_10_method_19_code (some .int)) = true := by decide +kernel
set_option maxRecDepth 100000 in
theorem dk_119 : ct_119.all (pq_dc prog_10_method_23_code (some .int)) = true := by decide +kernel
set_option maxRecDepth 100000 in
theorem dk_120 : ct_120.all (pq_dc prog_10_method_22_code none) = true := by decide +kernel
set_option maxRecDepth 100000 in
theorem dk_121 : ct_121.all (pq_dc prog_10_method_21_code (some .int)) = true := by decide +kernel
set_option maxRecDepth 100000 in
theorem dk_122 : ct_122.all (pq_dc prog_10_method_27_code (some .int)) = true := by decide +kernel
set_option maxRecDepth 100000 in
theorem dk_123 : ct_123.all (pq_dc prog_10_method_24_code none) = true := by decide +kernel
set_option maxRecDepth 100000 in
theorem dk_124 : ct_124.all (pq_dc prog_10_method_25_code none) = true := by decide +kernel
set_option maxRecDepth 100000 in
theorem dk_125 : ct_125.all (pq_dc prog_10_method_26_code none) = true := by decide +kernel
set_option maxRecDepth 100000 in
theorem dk_126 : ct_126.all (pq_dc prog_10_method_28_code (some .int)) = true := by decide +kernel
set_option maxRecDepth 100000 in
theorem dk_127 : ct_127.all (pq_dc prog_10_method_29_code (some .int)) = true := by decide +kernel
set_option maxRecDepth 100000 in
theorem dk_128 : ct_128.all (pq_dc prog_10_method_13_code (some .int)) = true := by decide +kernel
set_option maxRecDepth 100000 in
theorem dk_129 : ct_129.all (pq_dc prog_10_method_30_code (some .int)) = true := by decide +kernel
set_option maxRecDepth 100000 in
theorem dk_130 : ct_130.all (pq_dc prog_10_method_31_code (some .int)) = true := by decide +kernel
set_option maxRecDepth 100000 in
theorem dk_131 : ct_131.all (pq_dc prog_10_method_32_code (some .int)) = true := by decide +kernel
set_option maxRecDepth 100000 in
theorem dk_132 : ct_132.all (pq_dc prog_10_method_33_code (some .int)) = true := by decide +kernel
set_option maxRecDepth 100000 in
theorem dk_133 : ct_133.all (pq_dc prog_10_method_34_code (some .int)) = true := by decide +kernel
set_option maxRecDepth 100000 in
theorem dk_134 : ct_134.all (pq_dc prog_10_method_35_code (some .int)) = true := by decide +kernel
set_option maxRecDepth 100000 in
theorem dk_135 : ct_135.all (pq_dc prog_10_method_36_code (some .int)) = true := by decide +kernel
set_option maxRecDepth 100000 in
theorem dk_136 : ct_136.all (pq_dc prog_10_method_37_code (some .int)) = true := by decide +kernel
set_option maxRecDepth 100000 in
theorem dk_137 : ct_137.all (pq_dc prog_10_method_45_code (some .int)) = true := by decide +kernel
set_option maxRecDepth 100000 in
theorem dk_138 : ct_138.all (pq_dc prog_10_method_44_code (some .int)) = true := by decide +kernel
set_option maxRecDepth 100000 in
theorem dk_139 : ct_139.all (pq_dc prog_10_method_39_code none) = true := by decide +kernel
set_option maxRecDepth 100000 in
theorem dk_140 : ct_140.all (pq_dc prog_10_method_43_code (some .int)) = true := by decide +kernel
set_option maxRecDepth 100000 in
theorem dk_141 : ct_141.all (pq_dc prog_10_method_38_code (some .int)) = true := by decide +kernel
set_option maxRecDepth 100000 in
theorem dk_142 : ct_142.all (pq_dc prog_10_method_42_code (some .int)) = true := by decide +kernel
set_option maxRecDepth 100000 in
theorem dk_143 : ct_143.all (pq_dc prog_10_method_41_code (some .int)) = true := by decide +kernel
set_option maxRecDepth 100000 in
theorem dk_144 : ct_144.all (pq_dc prog_10_method_40_code (some .int)) = true := by decide +kernel
set_option maxRecDepth 100000 in
theorem dk_145 : ct_145.all (pq_dc prog_10_method_46_code (some .int)) = true := by decide +kernel
set_option maxRecDepth 100000 in
theorem dk_146 : ct_146.all (pq_dc prog_10_method_48_code (some .int)) = true := by decide +kernel
set_option maxRecDepth 100000 in
theorem dk_147 : ct_147.all (pq_dc prog_10_method_47_code (some .int)) = true := by decide +kernel
set_option maxRecDepth 100000 in
theorem dk_148 : ct_148.all (pq_dc prog_10_method_50_code (some .int)) = true := by decide +kernel
set_option maxRecDepth 100000 in
theorem dk_149 : ct_149.all (pq_dc prog_10_method_49_code (some .int)) = true := by decide +kernel
set_option maxRecDepth 100000 in
theorem dk_150 : ct_150.all (pq_dc prog_10_method_51_code (some .int)) = true := by decide +kernel
set_option maxRecDepth 100000 in
theorem dk_151 : ct_151.all (pq_dc prog_10_method_52_code (some .int)) = true := by decide +kernel
set_option maxRecDepth 100000 in
theorem dk_152 : ct_152.all (pq_dc prog_10_method_53_code (some .int)) = true := by decide +kernel
set_option maxRecDepth 100000 in
theorem dk_153 : ct_153.all (pq_dc prog_10_method_55_code (some .int)) = true := by decide +kernel
set_option maxRecDepth 100000 in
theorem dk_154 : ct_154.all (pq_dc prog_10_method_54_code (some .int)) = true := by decide +kernel
set_option maxRecDepth 100000 in
theorem dk_155 : ct_155.all (pq_dc prog_10_method_56_code (some .int)) = true := by decide +kernel
set_option maxRecDepth 100000 in
theorem dk_156 : ct_156.all (pq_dc code (some .boolean)) = true := by decide +kernel

set_option maxRecDepth 100000 in
theorem ck_0 : ∀ e ∈ ct_0, pq_ok "java/lang/Long" false e := pq_ac trivial (pq_ac trivial (pq_ac trivial (pq_ac trivial (pq_ac kD_0_314 (pq_ac trivial (pq_ac trivial (pq_ac trivial (pq_ac trivial (pq_ac kD_0_316 (pq_ac trivial (pq_ac trivial (pq_ac trivial (pq_ac trivial (pq_ac kD_0_316 (pq_ac trivial (pq_ac trivial (pq_ac trivial (pq_ac trivial (pq_ac trivial (pq_ac trivial (pq_ac trivial (pq_ac trivial (pq_ac kD_0_318 (pq_ac trivial (pq_ac trivial (pq_ac trivial (pq_ac trivial (pq_ac trivial (pq_ac trivial (pq_ac trivial (pq_ac trivial (pq_ac trivial (pq_ac trivial (pq_ac trivial (pq_ac trivial (pq_ac trivial (pq_ac trivial (pq_ac trivial (pq_ac trivial (pq_ac trivial (pq_ac trivial (pq_ac trivial (pq_ac trivial (pq_ac trivial (pq_ac trivial (pq_ac trivial (pq_ac trivial (pq_ac trivial (pq_an)))))))))))))))))))))))))))))))))))))))))))))))))
set_option maxRecDepth 100000 in
theorem ck_1 : ∀ e ∈ ct_1, pq_ok "PursuitDesk$Ways" false e := pq_ac trivial (pq_ac trivial (pq_ac trivial (pq_ac trivial (pq_ac trivial (pq_ac trivial (pq_ac trivial (pq_ac trivial (pq_ac trivial (pq_ac trivial (pq_ac kS_1_9 (pq_ac trivial (pq_ac trivial (pq_ac trivial (pq_ac trivial (pq_ac trivial (pq_ac trivial (pq_an)))))))))))))))))
set_option maxRecDepth 100000 in
theorem ck_2 : ∀ e ∈ ct_2, pq_ok "PursuitDesk$Ways" false e := pq_ac trivial (pq_ac trivial (pq_ac trivial (pq_ac trivial (pq_ac trivial (pq_ac trivial (pq_ac trivial (pq_ac trivial (pq_an))))))))
set_option maxRecDepth 100000 in
theorem ck_3 : ∀ e ∈ ct_3, pq_ok "PursuitDesk$Ways" false e := pq_ac trivial (pq_ac trivial (pq_ac kS_1_9 (pq_ac trivial (pq_ac trivial (pq_ac kS_1_9 (pq_ac trivial (pq_ac trivial (pq_an))))))))
set_option maxRecDepth 100000 in
theorem ck_4 : ∀ e ∈ ct_4, pq_ok "PursuitDesk$Ways" false e := pq_ac trivial (pq_ac trivial (pq_ac trivial (pq_ac trivial (pq_ac trivial (pq_ac trivial (pq_ac trivial (pq_ac trivial (pq_ac trivial (pq_ac trivial (pq_ac trivial (pq_an)))))))))))
set_option maxRecDepth 100000 in
theorem ck_5 : ∀ e ∈ ct_5, pq_ok "PursuitDesk$Ways" false e := pq_ac trivial (pq_ac trivial (pq_ac kS_1_23 (pq_ac kS_1_27 (pq_ac trivial (pq_an)))))
set_option maxRecDepth 100000 in
theorem ck_6 : ∀ e ∈ ct_6, pq_ok "PursuitDesk$Ways" false e := pq_ac trivial (pq_ac trivial (pq_ac trivial (pq_ac trivial (pq_ac trivial (pq_ac trivial (pq_ac trivial (pq_ac trivial (pq_ac trivial (pq_ac kS_1_19 (pq_ac trivial (pq_ac trivial (pq_ac kD_1_17 (pq_ac trivial (pq_ac trivial (pq_ac trivial (pq_ac trivial (pq_ac trivial (pq_ac trivial (pq_ac trivial (pq_ac trivial (pq_ac trivial (pq_ac trivial (pq_ac trivial (pq_ac trivial (pq_an)))))))))))))))))))))))))
set_option maxRecDepth 100000 in
theorem ck_7 : ∀ e ∈ ct_7, pq_ok "PursuitDesk$Ways" false e := pq_ac trivial (pq_ac trivial (pq_ac trivial (pq_ac trivial (pq_ac trivial (pq_ac trivial (pq_ac trivial (pq_ac trivial (pq_ac trivial (pq_ac trivial (pq_ac trivial (pq_ac trivial (pq_ac trivial (pq_ac trivial (pq_ac trivial (pq_ac kD_1_17 (pq_ac trivial (pq_ac trivial (pq_ac trivial (pq_an)))))))))))))))))))
set_option maxRecDepth 100000 in
theorem ck_8 : ∀ e ∈ ct_8, pq_ok "PursuitDesk$Ways" false e := pq_ac kD_1_15 (pq_ac trivial (pq_ac trivial (pq_ac trivial (pq_ac trivial (pq_ac kS_1_9 (pq_ac trivial (pq_ac trivial (pq_an))))))))
set_option maxRecDepth 100000 in
theorem ck_9 : ∀ e ∈ ct_9, pq_ok "PursuitDesk$Ways" false e := pq_ac trivial (pq_ac trivial (pq_ac trivial (pq_ac trivial (pq_ac trivial (pq_ac kD_1_17 (pq_ac trivial (pq_ac trivial (pq_ac trivial (pq_an)))))))))
set_option maxRecDepth 100000 in
theorem ck_10 : ∀ e ∈ ct_10, pq_ok "PursuitDesk$Beliefs" true e := pq_ac trivial (pq_ac kO_2_1 (pq_ac trivial (pq_ac trivial (pq_ac trivial (pq_ac kQ_2_9i (pq_ac trivial (pq_ac trivial (pq_ac trivial (pq_ac kQ_2_13i (pq_ac trivial (pq_an)))))))))))
set_option maxRecDepth 100000 in
theorem ck_11 : ∀ e ∈ ct_11, pq_ok "PursuitDesk$Beliefs" false e := pq_ac trivial (pq_ac trivial (pq_ac kQ_2_23 (pq_ac trivial (pq_ac trivial (pq_ac kQ_2_27 (pq_ac trivial (pq_ac kF_2_9 (pq_ac trivial (pq_ac kS_2_30 (pq_ac trivial (pq_ac trivial (pq_ac trivial (pq_an)))))))))))))
set_option maxRecDepth 100000 in
theorem ck_12 : ∀ e ∈ ct_12, pq_ok "PursuitDesk$Beliefs" false e := pq_ac trivial (pq_ac trivial (pq_ac trivial (pq_ac trivial (pq_an))))
set_option maxRecDepth 100000 in
theorem ck_13 : ∀ e ∈ ct_13, pq_ok "PursuitDesk$Beliefs" false e := pq_ac trivial (pq_ac kF_2_9 (pq_ac trivial (pq_ac trivial (pq_ac kF_2_9 (pq_ac trivial (pq_ac trivial (pq_ac kA_2_17 (pq_ac trivial (pq_ac kF_2_13 (pq_ac trivial (pq_ac trivial (pq_ac kF_2_13 (pq_ac trivial (pq_ac trivial (pq_ac kA_2_17 (pq_ac trivial (pq_ac trivial (pq_ac kF_2_23 (pq_ac kQ_2_23 (pq_ac trivial (pq_ac trivial (pq_ac kF_2_27 (pq_ac kQ_2_27 (pq_ac trivial (pq_an)))))))))))))))))))))))))
set_option maxRecDepth 100000 in
theorem ck_14 : ∀ e ∈ ct_14, pq_ok "PursuitDesk$Beliefs" false e := pq_ac trivial (pq_ac kF_2_9 (pq_ac trivial (pq_ac kF_2_23 (pq_ac kS_2_30 (pq_ac trivial (pq_ac trivial (pq_ac trivial (pq_ac trivial (pq_ac trivial (pq_ac trivial (pq_ac trivial (pq_ac trivial (pq_ac trivial (pq_ac trivial (pq_an)))))))))))))))
set_option maxRecDepth 100000 in
theorem ck_15 : ∀ e ∈ ct_15, pq_ok "PursuitDesk$Beliefs" false e := pq_ac trivial (pq_ac kF_2_9 (pq_ac trivial (pq_ac kS_2_30 (pq_ac trivial (pq_ac trivial (pq_an))))))
set_option maxRecDepth 100000 in
theorem ck_16 : ∀ e ∈ ct_16, pq_ok "PursuitDesk$Beliefs" false e := pq_ac trivial (pq_ac trivial (pq_ac kF_2_23 (pq_ac trivial (pq_ac trivial (pq_ac trivial (pq_ac kF_2_23 (pq_ac trivial (pq_ac kF_2_27 (pq_ac trivial (pq_ac trivial (pq_ac trivial (pq_ac trivial (pq_ac trivial (pq_ac trivial (pq_an)))))))))))))))
set_option maxRecDepth 100000 in
theorem ck_17 : ∀ e ∈ ct_17, pq_ok "PursuitDesk$Beliefs" false e := pq_ac trivial (pq_ac trivial (pq_ac kV_2_34 (pq_ac trivial (pq_ac kS_2_49 (pq_ac trivial (pq_ac trivial (pq_ac trivial (pq_ac kF_2_9 (pq_ac trivial (pq_ac kS_2_30 (pq_ac trivial (pq_ac trivial (pq_ac trivial (pq_ac trivial (pq_ac trivial (pq_ac trivial (pq_ac trivial (pq_ac trivial (pq_ac trivial (pq_ac trivial (pq_ac kF_2_23 (pq_ac trivial (pq_ac trivial (pq_ac kF_2_9 (pq_ac trivial (pq_ac kS_2_30 (pq_ac trivial (pq_ac trivial (pq_ac trivial (pq_ac kF_2_13 (pq_ac trivial (pq_ac kS_2_30 (pq_ac trivial (pq_ac trivial (pq_ac trivial (pq_ac trivial (pq_ac trivial (pq_ac kV_2_34 (pq_ac kS_2_37 (pq_ac trivial (pq_ac trivial (pq_ac trivial (pq_ac trivial (pq_ac trivial (pq_an)))))))))))))))))))))))))))))))))))))))))))))
set_option maxRecDepth 100000 in
theorem ck_18 : ∀ e ∈ ct_18, pq_ok "PursuitDesk$Beliefs" false e := pq_ac trivial (pq_ac trivial (pq_ac trivial (pq_ac kF_2_23 (pq_ac kV_2_34 (pq_ac kS_2_37 (pq_ac trivial (pq_ac trivial (pq_ac trivial (pq_ac kF_2_23 (pq_ac trivial (pq_ac trivial (pq_ac kQ_2_23 (pq_ac trivial (pq_ac trivial (pq_ac kF_2_27 (pq_ac trivial (pq_ac trivial (pq_ac trivial (pq_ac kX_2_43 (pq_ac kQ_2_27 (pq_ac trivial (pq_ac kF_2_9 (pq_ac trivial (pq_ac kF_2_23 (pq_ac kS_2_30 (pq_ac trivial (pq_ac trivial (pq_ac trivial (pq_ac kF_2_13 (pq_ac trivial (pq_ac kF_2_23 (pq_ac kS_2_30 (pq_ac trivial (pq_ac trivial (pq_ac trivial (pq_an))))))))))))))))))))))))))))))))))))
set_option maxRecDepth 100000 in
theorem ck_19 : ∀ e ∈ ct_19, pq_ok "PursuitDesk$Evader" true e := pq_ac trivial (pq_ac kO_3_1 (pq_ac trivial (pq_ac trivial (pq_ac trivial (pq_ac kQ_3_9i (pq_ac trivial (pq_an)))))))
set_option maxRecDepth 100000 in
theorem ck_20 : ∀ e ∈ ct_20, pq_ok "PursuitDesk$Evader" false e := pq_ac trivial (pq_ac trivial (pq_ac kF_3_15 (pq_ac kQ_3_15 (pq_ac trivial (pq_ac trivial (pq_ac kF_3_19 (pq_ac kQ_3_19 (pq_ac trivial (pq_ac trivial (pq_ac kF_3_23 (pq_ac kQ_3_23 (pq_ac trivial (pq_ac trivial (pq_ac kF_3_26 (pq_ac kQ_3_26 (pq_ac trivial (pq_ac trivial (pq_ac kF_3_29 (pq_ac kQ_3_29 (pq_ac trivial (pq_ac trivial (pq_ac kF_3_32 (pq_ac kQ_3_32 (pq_ac trivial (pq_ac kF_3_9 (pq_ac trivial (pq_ac trivial (pq_ac kF_3_9 (pq_ac trivial (pq_ac trivial (pq_ac kA_3_35 (pq_ac trivial (pq_an)))))))))))))))))))))))))))))))))
set_option maxRecDepth 100000 in
theorem ck_21 : ∀ e ∈ ct_21, pq_ok "PursuitDesk$Evader" false e := pq_ac trivial (pq_ac kF_3_15 (pq_ac trivial (pq_ac trivial (pq_ac kF_3_26 (pq_ac trivial (pq_ac trivial (pq_ac trivial (pq_ac trivial (pq_ac trivial (pq_an))))))))))
set_option maxRecDepth 100000 in
theorem ck_22 : ∀ e ∈ ct_22, pq_ok "PursuitDesk$Evader" false e := pq_ac trivial (pq_ac trivial (pq_ac kQ_3_26 (pq_ac trivial (pq_ac trivial (pq_ac kQ_3_29 (pq_ac trivial (pq_ac trivial (pq_ac trivial (pq_ac kV_3_41 (pq_ac trivial (pq_an)))))))))))
set_option maxRecDepth 100000 in
theorem ck_23 : ∀ e ∈ ct_23, pq_ok "PursuitDesk$Evader" false e := pq_ac trivial (pq_ac trivial (pq_ac kQ_3_19 (pq_ac trivial (pq_ac trivial (pq_ac kQ_3_23 (pq_ac trivial (pq_ac kF_3_9 (pq_ac trivial (pq_ac kS_3_54 (pq_ac trivial (pq_ac trivial (pq_ac trivial (pq_an)))))))))))))
set_option maxRecDepth 100000 in
theorem ck_24 : ∀ e ∈ ct_24, pq_ok "PursuitDesk$Evader" false e := pq_ac trivial (pq_ac trivial (pq_ac kF_3_19 (pq_ac trivial (pq_ac kF_3_23 (pq_ac kS_3_45 (pq_ac trivial (pq_ac trivial (pq_ac trivial (pq_ac trivial (pq_ac trivial (pq_ac trivial (pq_ac kF_3_23 (pq_ac trivial (pq_ac kV_3_51 (pq_ac trivial (pq_ac trivial (pq_ac trivial (pq_ac kF_3_23 (pq_ac trivial (pq_ac kV_3_41 (pq_ac trivial (pq_an))))))))))))))))))))))
set_option maxRecDepth 100000 in
theorem ck_25 : ∀ e ∈ ct_25, pq_ok "PursuitDesk$Evader" false e := pq_ac trivial (pq_ac kF_3_9 (pq_ac trivial (pq_ac kS_3_54 (pq_ac trivial (pq_ac trivial (pq_an))))))
set_option maxRecDepth 100000 in
theorem ck_26 : ∀ e ∈ ct_26, pq_ok "PursuitDesk$Evader" false e := pq_ac trivial (pq_ac trivial (pq_ac kQ_3_15 (pq_ac trivial (pq_ac trivial (pq_ac kQ_3_26 (pq_ac trivial (pq_ac trivial (pq_ac kQ_3_29 (pq_ac trivial (pq_ac trivial (pq_ac kQ_3_32 (pq_ac trivial (pq_ac trivial (pq_ac trivial (pq_ac kV_3_41 (pq_ac trivial (pq_an)))))))))))))))))
set_option maxRecDepth 100000 in
theorem ck_27 : ∀ e ∈ ct_27, pq_ok "PursuitDesk$Evader" false e := pq_ac trivial (pq_ac trivial (pq_ac trivial (pq_ac kF_3_19 (pq_ac trivial (pq_ac trivial (pq_ac kF_3_23 (pq_ac trivial (pq_ac trivial (pq_ac kF_3_26 (pq_ac trivial (pq_ac trivial (pq_ac trivial (pq_ac trivial (pq_ac trivial (pq_ac trivial (pq_ac kF_3_29 (pq_ac trivial (pq_ac trivial (pq_ac kF_3_32 (pq_ac trivial (pq_an)))))))))))))))))))))
set_option maxRecDepth 100000 in
theorem ck_28 : ∀ e ∈ ct_28, pq_ok "PursuitDesk$Search" true e := pq_ac trivial (pq_ac kO_4_5 (pq_ac trivial (pq_ac trivial (pq_ac trivial (pq_ac kQ_4_11i (pq_ac trivial (pq_an)))))))
set_option maxRecDepth 100000 in
theorem ck_29 : ∀ e ∈ ct_29, pq_ok "PursuitDesk$Search" false e := pq_ac trivial (pq_ac trivial (pq_ac kQ_4_15 (pq_ac trivial (pq_ac trivial (pq_ac kQ_4_19 (pq_ac trivial (pq_ac trivial (pq_ac kQ_4_23 (pq_ac trivial (pq_an))))))))))
set_option maxRecDepth 100000 in
theorem ck_30 : ∀ e ∈ ct_30, pq_ok "PursuitDesk$Search" false e := pq_ac trivial (pq_ac kV_4_26 (pq_ac trivial (pq_ac trivial (pq_ac trivial (pq_ac trivial (pq_ac trivial (pq_ac trivial (pq_ac trivial (pq_ac trivial (pq_ac trivial (pq_ac trivial (pq_ac trivial (pq_ac trivial (pq_ac trivial (pq_an)))))))))))))))
set_option maxRecDepth 100000 in
theorem ck_31 : ∀ e ∈ ct_31, pq_ok "PursuitDesk$Search" false e := pq_ac trivial (pq_ac trivial (pq_ac trivial (pq_ac trivial (pq_ac trivial (pq_ac trivial (pq_ac kF_4_23 (pq_ac trivial (pq_ac trivial (pq_ac trivial (pq_ac trivial (pq_ac trivial (pq_ac trivial (pq_ac trivial (pq_ac trivial (pq_ac trivial (pq_an))))))))))))))))
set_option maxRecDepth 100000 in
theorem ck_32 : ∀ e ∈ ct_32, pq_ok "PursuitDesk$Search" false e := pq_ac trivial (pq_ac trivial (pq_ac trivial (pq_ac trivial (pq_ac trivial (pq_ac trivial (pq_ac kF_4_23 (pq_ac trivial (pq_ac trivial (pq_ac trivial (pq_ac trivial (pq_ac trivial (pq_ac trivial (pq_ac trivial (pq_ac trivial (pq_ac trivial (pq_ac trivial (pq_ac trivial (pq_ac trivial (pq_ac trivial (pq_ac trivial (pq_ac trivial (pq_ac trivial (pq_ac trivial (pq_an))))))))))))))))))))))))
set_option maxRecDepth 100000 in
theorem ck_33 : ∀ e ∈ ct_33, pq_ok "PursuitDesk$Search" false e := pq_ac trivial (pq_ac trivial (pq_ac kV_4_30 (pq_ac trivial (pq_ac trivial (pq_ac trivial (pq_ac kF_4_19 (pq_ac trivial (pq_ac trivial (pq_ac trivial (pq_ac kS_4_34 (pq_ac trivial (pq_ac trivial (pq_ac kV_4_40 (pq_ac trivial (pq_an)))))))))))))))
set_option maxRecDepth 100000 in
theorem ck_34 : ∀ e ∈ ct_34, pq_ok "PursuitDesk$Search" false e := pq_ac trivial (pq_ac trivial (pq_ac trivial (pq_ac trivial (pq_ac trivial (pq_ac kF_4_23 (pq_ac trivial (pq_ac trivial (pq_ac trivial (pq_ac trivial (pq_ac trivial (pq_ac trivial (pq_ac kF_4_11 (pq_ac trivial (pq_ac trivial (pq_ac trivial (pq_ac trivial (pq_ac trivial (pq_ac trivial (pq_ac trivial (pq_ac trivial (pq_ac trivial (pq_ac trivial (pq_ac trivial (pq_ac trivial (pq_an)))))))))))))))))))))))))
set_option maxRecDepth 100000 in
theorem ck_35 : ∀ e ∈ ct_35, pq_ok "PursuitDesk$Search" false e := pq_ac trivial (pq_ac trivial (pq_ac kF_4_23 (pq_ac trivial (pq_ac trivial (pq_ac trivial (pq_ac trivial (pq_ac trivial (pq_ac trivial (pq_ac trivial (pq_ac trivial (pq_ac trivial (pq_ac kS_4_44 (pq_ac trivial (pq_ac trivial (pq_ac kV_4_48 (pq_ac trivial (pq_ac trivial (pq_ac kF_4_11 (pq_ac trivial (pq_ac trivial (pq_ac trivial (pq_ac trivial (pq_ac kF_4_19 (pq_ac trivial (pq_ac kS_4_52 (pq_ac trivial (pq_ac trivial (pq_ac trivial (pq_ac trivial (pq_ac trivial (pq_ac kF_4_15 (pq_ac trivial (pq_ac trivial (pq_ac trivial (pq_ac kS_4_56 (pq_ac trivial (pq_ac trivial (pq_ac trivial (pq_ac trivial (pq_ac kS_4_60 (pq_ac kD_4_64 (pq_ac trivial (pq_ac trivial (pq_ac trivial (pq_ac trivial (pq_ac trivial (pq_ac trivial (pq_ac trivial (pq_ac trivial (pq_ac trivial (pq_ac trivial (pq_ac trivial (pq_ac trivial (pq_ac trivial (pq_ac trivial (pq_ac trivial (pq_ac trivial (pq_ac trivial (pq_ac trivial (pq_ac trivial (pq_ac trivial (pq_ac trivial (pq_ac kV_4_40 (pq_ac trivial (pq_ac trivial (pq_ac trivial (pq_an)))))))))))))))))))))))))))))))))))))))))))))))))))))))))))))))))))
set_option maxRecDepth 100000 in
theorem ck_36 : ∀ e ∈ ct_36, pq_ok "PursuitDesk$TurnSearch" true e := pq_ac trivial (pq_ac kI_5_3 (pq_ac trivial (pq_ac trivial (pq_ac trivial (pq_ac kQ_5_9i (pq_ac trivial (pq_ac trivial (pq_ac trivial (pq_ac kQ_5_15i (pq_ac trivial (pq_an)))))))))))
set_option maxRecDepth 100000 in
theorem ck_37 : ∀ e ∈ ct_37, pq_ok "PursuitDesk$TurnSearch" false e := pq_ac trivial (pq_ac trivial (pq_ac kF_5_9 (pq_ac kV_5_18 (pq_ac trivial (pq_ac trivial (pq_ac kQ_5_22 (pq_ac trivial (pq_ac trivial (pq_ac kQ_5_26 (pq_ac trivial (pq_an)))))))))))
set_option maxRecDepth 100000 in
theorem ck_38 : ∀ e ∈ ct_38, pq_ok "PursuitDesk$TurnSearch" false e := pq_ac trivial (pq_ac kF_5_26 (pq_ac trivial (pq_ac trivial (pq_ac trivial (pq_ac kF_5_9 (pq_ac trivial (pq_ac trivial (pq_ac trivial (pq_ac trivial (pq_ac trivial (pq_ac kF_5_22 (pq_ac trivial (pq_ac trivial (pq_ac trivial (pq_ac trivial (pq_ac kF_5_9 (pq_ac trivial (pq_ac trivial (pq_ac trivial (pq_ac trivial (pq_ac kF_5_15 (pq_ac trivial (pq_ac kF_5_22 (pq_ac trivial (pq_ac trivial (pq_ac trivial (pq_ac trivial (pq_ac kF_5_22 (pq_ac trivial (pq_ac trivial (pq_ac kQ_5_22 (pq_ac trivial (pq_ac trivial (pq_ac trivial (pq_ac trivial (pq_ac trivial (pq_ac trivial (pq_ac kQ_5_26 (pq_ac trivial (pq_an))))))))))))))))))))))))))))))))))))))))
set_option maxRecDepth 100000 in
theorem ck_39 : ∀ e ∈ ct_39, pq_ok "PursuitDesk$TurnSearch" false e := pq_ac trivial (pq_ac trivial (pq_ac trivial (pq_ac trivial (pq_ac kF_5_22 (pq_ac trivial (pq_ac trivial (pq_ac trivial (pq_ac trivial (pq_ac trivial (pq_ac kF_5_26 (pq_ac trivial (pq_ac trivial (pq_ac trivial (pq_ac trivial (pq_ac kF_5_15 (pq_ac trivial (pq_ac trivial (pq_ac kQ_5_53 (pq_ac trivial (pq_ac trivial (pq_ac kF_5_53 (pq_ac kV_5_56 (pq_ac trivial (pq_ac trivial (pq_ac trivial (pq_an))))))))))))))))))))))))))
set_option maxRecDepth 100000 in
theorem ck_40 : ∀ e ∈ ct_40, pq_ok "PursuitDesk$TurnSearch" false e := pq_ac trivial (pq_ac trivial (pq_ac trivial (pq_ac kF_5_53 (pq_ac kV_5_49 (pq_ac trivial (pq_an))))))
set_option maxRecDepth 100000 in
theorem ck_41 : ∀ e ∈ ct_41, pq_ok "PursuitDesk$TurnSearch" false e := pq_ac trivial (pq_ac kF_5_26 (pq_ac trivial (pq_ac trivial (pq_ac trivial (pq_ac trivial (pq_ac trivial (pq_ac trivial (pq_ac trivial (pq_ac kF_5_26 (pq_ac trivial (pq_ac trivial (pq_ac trivial (pq_ac trivial (pq_ac trivial (pq_ac kF_5_9 (pq_ac trivial (pq_ac trivial (pq_ac trivial (pq_ac trivial (pq_ac trivial (pq_ac kF_5_9 (pq_ac trivial (pq_ac trivial (pq_ac trivial (pq_ac trivial (pq_ac trivial (pq_ac trivial (pq_ac trivial (pq_an)))))))))))))))))))))))))))))
set_option maxRecDepth 100000 in
theorem ck_42 : ∀ e ∈ ct_42, pq_ok "PursuitDesk$TurnSearch" false e := pq_ac trivial (pq_ac kF_5_26 (pq_ac trivial (pq_ac trivial (pq_ac kV_5_59 (pq_ac trivial (pq_ac trivial (pq_ac trivial (pq_ac trivial (pq_ac trivial (pq_ac trivial (pq_ac kF_5_9 (pq_ac trivial (pq_ac trivial (pq_ac trivial (pq_ac trivial (pq_ac trivial (pq_ac trivial (pq_ac trivial (pq_ac kV_5_33 (pq_ac trivial (pq_ac kF_5_46 (pq_ac trivial (pq_ac trivial (pq_ac trivial (pq_an)))))))))))))))))))))))))
set_option maxRecDepth 100000 in
theorem ck_43 : ∀ e ∈ ct_43, pq_ok "PursuitDesk$TurnSearch" false e := pq_ac trivial (pq_ac kV_5_29 (pq_ac trivial (pq_ac trivial (pq_ac trivial (pq_ac trivial (pq_ac trivial (pq_ac trivial (pq_ac trivial (pq_ac trivial (pq_ac kV_5_33 (pq_ac trivial (pq_ac trivial (pq_ac kV_5_37 (pq_ac trivial (pq_ac trivial (pq_ac trivial (pq_an)))))))))))))))))
set_option maxRecDepth 100000 in
theorem ck_44 : ∀ e ∈ ct_44, pq_ok "PursuitDesk$TurnSearch" false e := pq_ac trivial (pq_ac trivial (pq_ac kF_5_40 (pq_ac trivial (pq_ac trivial (pq_ac trivial (pq_ac trivial (pq_ac trivial (pq_ac trivial (pq_ac trivial (pq_ac trivial (pq_ac kF_5_43 (pq_ac trivial (pq_ac trivial (pq_ac kF_5_46 (pq_ac trivial (pq_ac trivial (pq_ac trivial (pq_ac kF_5_40 (pq_ac trivial (pq_ac trivial (pq_ac trivial (pq_ac trivial (pq_ac trivial (pq_ac kF_5_46 (pq_ac trivial (pq_ac trivial (pq_ac trivial (pq_ac trivial (pq_ac trivial (pq_ac trivial (pq_ac trivial (pq_ac trivial (pq_ac trivial (pq_ac trivial (pq_ac trivial (pq_ac trivial (pq_ac trivial (pq_ac trivial (pq_ac kV_5_49 (pq_ac trivial (pq_an)))))))))))))))))))))))))))))))))))))))))
set_option maxRecDepth 100000 in
theorem ck_45 : ∀ e ∈ ct_45, pq_ok "PursuitDesk$MoveSearch" true e := pq_ac trivial (pq_ac kI_6_5 (pq_ac trivial (pq_ac trivial (pq_ac trivial (pq_ac kQ_6_9i (pq_ac trivial (pq_an)))))))
set_option maxRecDepth 100000 in
theorem ck_46 : ∀ e ∈ ct_46, pq_ok "PursuitDesk$MoveSearch" false e := pq_ac trivial (pq_ac trivial (pq_ac trivial (pq_ac trivial (pq_ac kF_6_9 (pq_ac trivial (pq_ac trivial (pq_ac trivial (pq_ac trivial (pq_ac trivial (pq_ac trivial (pq_ac trivial (pq_ac trivial (pq_ac kF_6_24 (pq_ac trivial (pq_ac trivial (pq_ac trivial (pq_ac trivial (pq_ac kF_6_9 (pq_ac trivial (pq_ac trivial (pq_ac kF_6_24 (pq_ac trivial (pq_ac trivial (pq_ac trivial (pq_ac trivial (pq_ac trivial (pq_ac kF_6_19 (pq_ac trivial (pq_ac kF_6_24 (pq_ac trivial (pq_ac trivial (pq_ac kX_6_39 (pq_ac kQ_6_19 (pq_ac trivial (pq_an)))))))))))))))))))))))))))))))))))
set_option maxRecDepth 100000 in
theorem ck_47 : ∀ e ∈ ct_47, pq_ok "PursuitDesk$MoveSearch" false e := pq_ac trivial (pq_ac trivial (pq_ac kF_6_9 (pq_ac kV_6_15 (pq_ac trivial (pq_ac kF_6_9 (pq_ac trivial (pq_ac trivial (pq_ac trivial (pq_ac trivial (pq_ac trivial (pq_ac kQ_6_19 (pq_ac trivial (pq_ac trivial (pq_ac trivial (pq_ac trivial (pq_ac kF_6_19 (pq_ac trivial (pq_ac trivial (pq_ac kC_6_23 (pq_ac trivial (pq_ac trivial (pq_ac trivial (pq_ac kQ_6_24 (pq_ac trivial (pq_ac kV_6_27 (pq_ac trivial (pq_ac trivial (pq_ac kF_6_24 (pq_ac trivial (pq_ac trivial (pq_ac trivial (pq_ac trivial (pq_ac trivial (pq_an))))))))))))))))))))))))))))))))))
set_option maxRecDepth 100000 in
theorem ck_48 : ∀ e ∈ ct_48, pq_ok "PursuitDesk$MoveSearch" false e := pq_ac trivial (pq_ac kV_6_31 (pq_ac trivial (pq_ac trivial (pq_ac trivial (pq_ac trivial (pq_ac trivial (pq_ac trivial (pq_ac trivial (pq_ac kF_6_9 (pq_ac trivial (pq_ac trivial (pq_ac trivial (pq_ac kF_6_24 (pq_ac trivial (pq_ac trivial (pq_ac trivial (pq_ac trivial (pq_ac trivial (pq_ac trivial (pq_ac trivial (pq_ac trivial (pq_ac trivial (pq_ac kV_6_35 (pq_ac trivial (pq_ac trivial (pq_ac trivial (pq_ac trivial (pq_an))))))))))))))))))))))))))))
set_option maxRecDepth 100000 in
theorem ck_49 : ∀ e ∈ ct_49, pq_ok "PursuitDesk$State" true e := pq_ac trivial (pq_ac kO_7_3 (pq_ac trivial (pq_ac trivial (pq_ac trivial (pq_ac kQ_7_9i (pq_ac trivial (pq_ac trivial (pq_ac trivial (pq_ac kQ_7_15i (pq_ac trivial (pq_ac kN_7_18 (pq_ac trivial (pq_ac kI_7_20 (pq_ac kQ_7_21i (pq_ac trivial (pq_ac kN_7_25 (pq_ac trivial (pq_ac kI_7_27 (pq_ac kQ_7_28i (pq_ac trivial (pq_an)))))))))))))))))))))
set_option maxRecDepth 100000 in
theorem ck_50 : ∀ e ∈ ct_50, pq_ok "PursuitDesk$State" false e := pq_ac trivial (pq_ac trivial (pq_ac kQ_7_32 (pq_ac trivial (pq_ac trivial (pq_ac kS_7_65 (pq_ac kQ_7_36 (pq_ac trivial (pq_ac trivial (pq_ac kQ_7_40 (pq_ac trivial (pq_ac trivial (pq_ac kQ_7_49 (pq_ac trivial (pq_ac kF_7_28 (pq_ac trivial (pq_ac kQ_7_71 (pq_ac trivial (pq_ac kV_7_75 (pq_ac trivial (pq_an))))))))))))))))))))
set_option maxRecDepth 100000 in
theorem ck_51 : ∀ e ∈ ct_51, pq_ok "PursuitDesk$State" false e := pq_ac trivial (pq_ac kF_7_21 (pq_ac trivial (pq_ac kF_7_49 (pq_ac trivial (pq_ac trivial (pq_ac kF_7_32 (pq_ac trivial (pq_ac trivial (pq_ac trivial (pq_ac trivial (pq_ac kV_7_78 (pq_ac trivial (pq_ac trivial (pq_ac trivial (pq_ac kV_7_82 (pq_ac trivial (pq_an)))))))))))))))))
set_option maxRecDepth 100000 in
theorem ck_52 : ∀ e ∈ ct_52, pq_ok "PursuitDesk$State" false e := pq_ac trivial (pq_ac trivial (pq_ac trivial (pq_ac trivial (pq_ac trivial (pq_ac trivial (pq_ac kF_7_40 (pq_ac trivial (pq_ac trivial (pq_ac trivial (pq_ac trivial (pq_ac kF_7_9 (pq_ac trivial (pq_ac trivial (pq_ac trivial (pq_ac trivial (pq_ac trivial (pq_ac trivial (pq_ac trivial (pq_ac trivial (pq_ac trivial (pq_an)))))))))))))))))))))
set_option maxRecDepth 100000 in
theorem ck_53 : ∀ e ∈ ct_53, pq_ok "PursuitDesk$State" false e := pq_ac trivial (pq_ac trivial (pq_ac kF_7_32 (pq_ac kQ_7_32 (pq_ac trivial (pq_ac trivial (pq_ac kF_7_36 (pq_ac kQ_7_36 (pq_ac trivial (pq_ac trivial (pq_ac kF_7_40 (pq_ac kQ_7_40 (pq_ac trivial (pq_ac kF_7_9 (pq_ac trivial (pq_ac trivial (pq_ac kF_7_9 (pq_ac trivial (pq_ac trivial (pq_ac kA_7_43 (pq_ac trivial (pq_ac kF_7_15 (pq_ac trivial (pq_ac trivial (pq_ac kF_7_15 (pq_ac trivial (pq_ac trivial (pq_ac kA_7_43 (pq_ac trivial (pq_ac trivial (pq_ac kF_7_49 (pq_ac kQ_7_49 (pq_ac trivial (pq_ac trivial (pq_ac kF_7_52 (pq_ac kQ_7_52 (pq_ac trivial (pq_ac trivial (pq_ac kF_7_55 (pq_ac kQ_7_55 (pq_ac trivial (pq_ac kF_7_21 (pq_ac trivial (pq_ac kF_7_21 (pq_ac kV_7_58 (pq_ac trivial (pq_ac kF_7_28 (pq_ac trivial (pq_ac kF_7_28 (pq_ac kV_7_62 (pq_ac trivial (pq_an)))))))))))))))))))))))))))))))))))))))))))))))))))
set_option maxRecDepth 100000 in
theorem ck_54 : ∀ e ∈ ct_54, pq_ok "PursuitDesk$State" false e := pq_ac trivial (pq_ac kF_7_36 (pq_ac trivial (pq_ac trivial (pq_ac kS_7_86 (pq_ac trivial (pq_ac trivial (pq_ac trivial (pq_ac trivial (pq_ac trivial (pq_ac trivial (pq_ac trivial (pq_ac trivial (pq_an)))))))))))))
set_option maxRecDepth 100000 in
theorem ck_55 : ∀ e ∈ ct_55, pq_ok "PursuitDesk$State" false e := pq_ac trivial (pq_ac trivial (pq_ac kF_7_36 (pq_ac trivial (pq_ac trivial (pq_ac kS_7_101 (pq_ac kD_7_99 (pq_ac trivial (pq_ac trivial (pq_ac kQ_7_36 (pq_ac trivial (pq_ac trivial (pq_ac trivial (pq_ac trivial (pq_ac kF_7_40 (pq_ac trivial (pq_ac trivial (pq_ac trivial (pq_ac kF_7_9 (pq_ac trivial (pq_ac trivial (pq_ac trivial (pq_ac kF_7_15 (pq_ac trivial (pq_ac trivial (pq_ac kV_7_104 (pq_ac trivial (pq_ac trivial (pq_ac kF_7_15 (pq_ac trivial (pq_ac trivial (pq_ac kF_7_9 (pq_ac trivial (pq_ac trivial (pq_ac trivial (pq_ac trivial (pq_ac trivial (pq_ac trivial (pq_ac kF_7_28 (pq_ac kF_7_71 (pq_ac trivial (pq_ac trivial (pq_ac trivial (pq_ac kF_7_28 (pq_ac kF_7_108 (pq_ac trivial (pq_ac kF_7_28 (pq_ac kF_7_111 (pq_ac kV_7_104 (pq_ac trivial (pq_ac trivial (pq_ac kF_7_28 (pq_ac trivial (pq_ac kF_7_28 (pq_ac kF_7_108 (pq_ac kQ_7_111 (pq_ac trivial (pq_an)))))))))))))))))))))))))))))))))))))))))))))))))))))))))
set_option maxRecDepth 100000 in
theorem ck_56 : ∀ e ∈ ct_56, pq_ok "PursuitDesk$State" false e := pq_ac trivial (pq_ac trivial (pq_ac kF_7_32 (pq_ac kS_7_65 (pq_ac trivial (pq_ac trivial (pq_ac kQ_7_36 (pq_ac trivial (pq_ac kF_7_9 (pq_ac trivial (pq_ac trivial (pq_ac kF_7_15 (pq_ac trivial (pq_ac trivial (pq_ac kA_7_43 (pq_ac trivial (pq_ac kF_7_28 (pq_ac trivial (pq_ac kF_7_28 (pq_ac kF_7_108 (pq_ac kQ_7_111 (pq_ac trivial (pq_ac kV_7_75 (pq_ac trivial (pq_an))))))))))))))))))))))))
set_option maxRecDepth 100000 in
theorem ck_57 : ∀ e ∈ ct_57, pq_ok "PursuitDesk$State" false e := pq_ac trivial (pq_ac kF_7_36 (pq_ac kS_7_90 (pq_ac trivial (pq_ac kF_7_32 (pq_ac trivial (pq_ac trivial (pq_ac trivial (pq_ac trivial (pq_an)))))))))
set_option maxRecDepth 100000 in
theorem ck_58 : ∀ e ∈ ct_58, pq_ok "PursuitDesk$State" false e := pq_ac trivial (pq_ac kF_7_9 (pq_ac trivial (pq_ac kF_7_40 (pq_ac trivial (pq_ac trivial (pq_ac trivial (pq_ac kF_7_15 (pq_ac trivial (pq_ac kF_7_40 (pq_ac trivial (pq_ac trivial (pq_ac trivial (pq_ac trivial (pq_ac kF_7_40 (pq_ac trivial (pq_ac trivial (pq_ac kQ_7_40 (pq_ac trivial (pq_ac kF_7_21 (pq_ac trivial (pq_ac kV_7_113 (pq_ac trivial (pq_ac kF_7_28 (pq_ac kV_7_117 (pq_ac trivial (pq_ac trivial (pq_ac kF_7_28 (pq_ac kF_7_108 (pq_ac trivial (pq_ac trivial (pq_ac trivial (pq_ac kF_7_28 (pq_ac trivial (pq_ac trivial (pq_ac kF_7_49 (pq_ac kV_7_121 (pq_ac trivial (pq_an))))))))))))))))))))))))))))))))))))))
set_option maxRecDepth 100000 in
theorem ck_59 : ∀ e ∈ ct_59, pq_ok "PursuitDesk$State" false e := pq_ac trivial (pq_ac trivial (pq_ac kF_7_15 (pq_ac kV_7_124 (pq_ac trivial (pq_ac trivial (pq_ac trivial (pq_ac kF_7_49 (pq_ac trivial (pq_ac trivial (pq_ac kQ_7_49 (pq_ac trivial (pq_ac kF_7_21 (pq_ac trivial (pq_ac kV_7_128 (pq_ac trivial (pq_ac kF_7_28 (pq_ac kV_7_117 (pq_ac trivial (pq_ac trivial (pq_ac kF_7_28 (pq_ac trivial (pq_ac trivial (pq_ac kF_7_49 (pq_ac kV_7_132 (pq_ac trivial (pq_ac kF_7_15 (pq_ac trivial (pq_ac trivial (pq_ac kF_7_9 (pq_ac trivial (pq_ac trivial (pq_ac kA_7_43 (pq_ac trivial (pq_an))))))))))))))))))))))))))))))))))
set_option maxRecDepth 100000 in
theorem ck_60 : ∀ e ∈ ct_60, pq_ok "PursuitDesk$State" false e := pq_ac trivial (pq_ac kF_7_36 (pq_ac trivial (pq_ac trivial (pq_ac trivial (pq_ac trivial (pq_ac trivial (pq_ac kF_7_40 (pq_ac trivial (pq_ac trivial (pq_ac trivial (pq_ac kF_7_9 (pq_ac trivial (pq_ac trivial (pq_ac trivial (pq_ac trivial (pq_ac trivial (pq_ac kS_7_96 (pq_ac kD_7_99 (pq_ac trivial (pq_ac trivial (pq_ac trivial (pq_ac trivial (pq_ac trivial (pq_ac trivial (pq_ac trivial (pq_an))))))))))))))))))))))))))
set_option maxRecDepth 100000 in
theorem ck_61 : ∀ e ∈ ct_61, pq_ok "PursuitDesk$State" false e := pq_ac trivial (pq_ac kF_7_28 (pq_ac kV_7_117 (pq_ac trivial (pq_ac trivial (pq_ac kF_7_52 (pq_ac trivial (pq_ac trivial (pq_ac kF_7_49 (pq_ac trivial (pq_ac kF_7_52 (pq_ac trivial (pq_ac trivial (pq_ac trivial (pq_ac kF_7_49 (pq_ac trivial (pq_ac kF_7_55 (pq_ac trivial (pq_ac trivial (pq_ac trivial (pq_ac kF_7_49 (pq_ac trivial (pq_ac kF_7_55 (pq_ac trivial (pq_ac trivial (pq_ac trivial (pq_ac kF_7_21 (pq_ac trivial (pq_ac kV_7_136 (pq_ac trivial (pq_ac trivial (pq_ac kF_7_28 (pq_ac kF_7_140 (pq_ac trivial (pq_ac trivial (pq_ac trivial (pq_ac kF_7_21 (pq_ac trivial (pq_ac trivial (pq_ac kF_7_28 (pq_ac trivial (pq_ac kV_7_143 (pq_ac kV_7_147 (pq_ac trivial (pq_an))))))))))))))))))))))))))))))))))))))))))))
set_option maxRecDepth 100000 in
theorem ck_62 : ∀ e ∈ ct_62, pq_ok "PursuitDesk" true e := pq_ac trivial (pq_ac kO_8_1 (pq_ac trivial (pq_ac kN_8_7 (pq_ac trivial (pq_ac kI_8_9 (pq_ac kQ_8_10i (pq_ac trivial (pq_ac trivial (pq_ac kW_8_7 (pq_ac kQ_8_16i (pq_ac trivial (pq_ac trivial (pq_ac trivial (pq_ac trivial (pq_ac trivial (pq_ac trivial (pq_ac kF_8_16 (pq_ac trivial (pq_ac kN_8_7 (pq_ac trivial (pq_ac kI_8_9 (pq_ac trivial (pq_ac trivial (pq_ac trivial (pq_ac trivial (pq_ac trivial (pq_ac trivial (pq_ac kQ_8_20i (pq_ac trivial (pq_ac kN_8_24 (pq_ac trivial (pq_ac kI_8_26 (pq_ac kQ_8_27i (pq_ac trivial (pq_ac kN_8_24 (pq_ac trivial (pq_ac kI_8_26 (pq_ac kQ_8_31i (pq_ac trivial (pq_ac kN_8_34 (pq_ac trivial (pq_ac kI_8_36 (pq_ac kQ_8_37i (pq_ac trivial (pq_ac kF_8_10 (pq_ac trivial (pq_ac kV_8_41 (pq_ac trivial (pq_an)))))))))))))))))))))))))))))))))))))))))))))))))
set_option maxRecDepth 100000 in
theorem ck_63 : ∀ e ∈ ct_63, pq_ok "PursuitDesk" false e := pq_ac trivial (pq_ac trivial (pq_ac trivial (pq_ac trivial (pq_ac trivial (pq_ac trivial (pq_ac trivial (pq_ac trivial (pq_ac trivial (pq_ac kV_8_45 (pq_ac trivial (pq_ac kF_8_10 (pq_ac kF_8_48 (pq_ac trivial (pq_ac trivial (pq_ac kF_8_10 (pq_ac trivial (pq_ac kV_8_41 (pq_ac trivial (pq_ac trivial (pq_an))))))))))))))))))))
set_option maxRecDepth 100000 in
theorem ck_64 : ∀ e ∈ ct_64, pq_ok "PursuitDesk" false e := pq_ac trivial (pq_ac kF_8_139 (pq_ac trivial (pq_ac trivial (pq_ac trivial (pq_ac kV_8_228 (pq_ac trivial (pq_ac kF_8_16 (pq_ac trivial (pq_ac kF_8_139 (pq_ac trivial (pq_ac trivial (pq_ac kF_8_10 (pq_ac kV_8_142 (pq_ac trivial (pq_ac trivial (pq_ac kF_8_139 (pq_ac trivial (pq_ac trivial (pq_ac kQ_8_139 (pq_ac trivial (pq_ac trivial (pq_ac kQ_8_146 (pq_ac trivial (pq_an))))))))))))))))))))))))
set_option maxRecDepth 100000 in
theorem ck_65 : ∀ e ∈ ct_65, pq_ok "PursuitDesk" false e := pq_ac trivial (pq_ac kF_8_16 (pq_ac trivial (pq_ac trivial (pq_ac trivial (pq_ac trivial (pq_ac trivial (pq_ac trivial (pq_ac trivial (pq_ac trivial (pq_ac trivial (pq_ac kF_8_16 (pq_ac trivial (pq_ac trivial (pq_ac trivial (pq_ac trivial (pq_ac kF_8_16 (pq_ac trivial (pq_ac trivial (pq_ac trivial (pq_ac trivial (pq_ac trivial (pq_ac trivial (pq_ac kF_8_16 (pq_ac trivial (pq_ac trivial (pq_ac trivial (pq_ac trivial (pq_ac trivial (pq_ac kQ_8_139 (pq_ac trivial (pq_an)))))))))))))))))))))))))))))))
set_option maxRecDepth 100000 in
theorem ck_66 : ∀ e ∈ ct_66, pq_ok "PursuitDesk" false e := pq_ac trivial (pq_ac trivial (pq_ac kV_8_52 (pq_ac trivial (pq_ac trivial (pq_ac trivial (pq_ac kV_8_52 (pq_ac trivial (pq_ac trivial (pq_ac trivial (pq_ac trivial (pq_ac trivial (pq_ac trivial (pq_ac trivial (pq_ac trivial (pq_ac trivial (pq_ac trivial (pq_ac trivial (pq_ac trivial (pq_ac kV_8_45 (pq_ac trivial (pq_ac kF_8_10 (pq_ac trivial (pq_ac trivial (pq_ac kV_8_56 (pq_ac trivial (pq_ac trivial (pq_ac trivial (pq_ac trivial (pq_ac trivial (pq_ac trivial (pq_ac trivial (pq_ac trivial (pq_ac trivial (pq_ac kF_8_10 (pq_ac trivial (pq_ac kF_8_60 (pq_ac trivial (pq_ac trivial (pq_ac kS_8_64 (pq_ac trivial (pq_ac kQ_8_60 (pq_ac trivial (pq_ac trivial (pq_ac kF_8_10 (pq_ac trivial (pq_ac trivial (pq_ac kV_8_70 (pq_ac trivial (pq_ac trivial (pq_an))))))))))))))))))))))))))))))))))))))))))))))))))
set_option maxRecDepth 100000 in
theorem ck_67 : ∀ e ∈ ct_67, pq_ok "PursuitDesk" false e := pq_ac trivial (pq_ac trivial (pq_ac trivial (pq_ac trivial (pq_ac kF_8_10 (pq_ac kF_8_48 (pq_ac trivial (pq_ac trivial (pq_ac trivial (pq_ac trivial (pq_ac trivial (pq_an)))))))))))
set_option maxRecDepth 100000 in
theorem ck_68 : ∀ e ∈ ct_68, pq_ok "PursuitDesk" false e := pq_ac trivial (pq_ac kV_8_74 (pq_ac trivial (pq_ac trivial (pq_ac trivial (pq_ac trivial (pq_ac trivial (pq_ac kV_8_45 (pq_ac trivial (pq_ac kF_8_10 (pq_ac trivial (pq_ac kV_8_78 (pq_ac kV_8_82 (pq_ac trivial (pq_ac kF_8_10 (pq_ac kV_8_86 (pq_ac trivial (pq_an)))))))))))))))))
set_option maxRecDepth 100000 in
theorem ck_69 : ∀ e ∈ ct_69, pq_ok "PursuitDesk" false e := pq_ac trivial (pq_ac trivial (pq_ac trivial (pq_ac trivial (pq_ac trivial (pq_ac trivial (pq_ac kF_8_221 (pq_ac trivial (pq_ac trivial (pq_ac trivial (pq_ac kV_8_224 (pq_ac trivial (pq_ac trivial (pq_ac trivial (pq_ac trivial (pq_ac trivial (pq_ac trivial (pq_ac trivial (pq_ac trivial (pq_ac trivial (pq_ac trivial (pq_ac trivial (pq_ac trivial (pq_ac trivial (pq_ac trivial (pq_ac trivial (pq_ac trivial (pq_ac trivial (pq_ac trivial (pq_ac trivial (pq_ac trivial (pq_ac trivial (pq_an))))))))))))))))))))))))))))))))
set_option maxRecDepth 100000 in
theorem ck_70 : ∀ e ∈ ct_70, pq_ok "PursuitDesk" false e := pq_ac trivial (pq_ac trivial (pq_ac trivial (pq_ac trivial (pq_ac kF_8_221 (pq_ac trivial (pq_ac trivial (pq_ac trivial (pq_ac trivial (pq_ac kF_8_20 (pq_ac trivial (pq_ac trivial (pq_ac trivial (pq_ac trivial (pq_ac trivial (pq_ac trivial (pq_ac kF_8_20 (pq_ac trivial (pq_ac trivial (pq_ac trivial (pq_ac trivial (pq_ac trivial (pq_ac trivial (pq_ac trivial (pq_ac trivial (pq_ac trivial (pq_ac kV_8_52 (pq_ac trivial (pq_ac trivial (pq_ac trivial (pq_ac kV_8_52 (pq_ac trivial (pq_ac trivial (pq_ac trivial (pq_ac trivial (pq_ac trivial (pq_ac kF_8_20 (pq_ac trivial (pq_ac trivial (pq_ac trivial (pq_ac trivial (pq_ac trivial (pq_ac trivial (pq_ac trivial (pq_ac kF_8_20 (pq_ac trivial (pq_ac trivial (pq_ac trivial (pq_ac trivial (pq_ac trivial (pq_ac trivial (pq_ac trivial (pq_ac trivial (pq_ac trivial (pq_ac trivial (pq_ac kS_8_64 (pq_ac trivial (pq_an)))))))))))))))))))))))))))))))))))))))))))))))))))))))))
set_option maxRecDepth 100000 in
theorem ck_71 : ∀ e ∈ ct_71, pq_ok "PursuitDesk" false e := pq_ac trivial (pq_ac trivial (pq_ac trivial (pq_ac trivial (pq_ac trivial (pq_ac trivial (pq_ac kF_8_221 (pq_ac trivial (pq_ac trivial (pq_ac trivial (pq_ac trivial (pq_ac kV_8_224 (pq_ac trivial (pq_ac trivial (pq_ac trivial (pq_ac trivial (pq_ac trivial (pq_ac trivial (pq_an))))))))))))))))))
set_option maxRecDepth 100000 in
theorem ck_72 : ∀ e ∈ ct_72, pq_ok "PursuitDesk" false e := pq_ac trivial (pq_ac trivial (pq_ac kV_8_52 (pq_ac trivial (pq_ac trivial (pq_ac trivial (pq_ac trivial (pq_ac kF_8_10 (pq_ac kF_8_89 (pq_ac trivial (pq_ac trivial (pq_ac trivial (pq_ac trivial (pq_ac trivial (pq_ac kV_8_45 (pq_ac trivial (pq_ac kF_8_10 (pq_ac trivial (pq_ac kV_8_92 (pq_ac trivial (pq_ac kF_8_10 (pq_ac kF_8_89 (pq_ac trivial (pq_ac trivial (pq_ac trivial (pq_an)))))))))))))))))))))))))
set_option maxRecDepth 100000 in
theorem ck_73 : ∀ e ∈ ct_73, pq_ok "PursuitDesk" false e := pq_ac trivial (pq_ac kF_8_10 (pq_ac kF_8_89 (pq_ac trivial (pq_ac trivial (pq_ac trivial (pq_ac trivial (pq_ac kV_8_45 (pq_ac trivial (pq_ac kF_8_10 (pq_ac trivial (pq_ac kF_8_89 (pq_ac trivial (pq_ac trivial (pq_ac kQ_8_89 (pq_ac trivial (pq_ac kF_8_10 (pq_ac kF_8_89 (pq_ac trivial (pq_an)))))))))))))))))))
set_option maxRecDepth 100000 in
theorem ck_74 : ∀ e ∈ ct_74, pq_ok "PursuitDesk" false e := pq_ac trivial (pq_ac trivial (pq_ac kV_8_95 (pq_ac trivial (pq_ac trivial (pq_ac trivial (pq_ac kV_8_52 (pq_ac trivial (pq_ac trivial (pq_ac trivial (pq_ac trivial (pq_ac kF_8_10 (pq_ac trivial (pq_ac kF_8_10 (pq_ac kF_8_98 (pq_ac trivial (pq_ac trivial (pq_ac trivial (pq_ac kV_8_56 (pq_ac trivial (pq_ac trivial (pq_ac trivial (pq_ac trivial (pq_ac kV_8_45 (pq_ac trivial (pq_ac kF_8_10 (pq_ac kF_8_102 (pq_ac trivial (pq_ac trivial (pq_ac trivial (pq_ac trivial (pq_ac kF_8_10 (pq_ac kF_8_102 (pq_ac trivial (pq_ac trivial (pq_ac trivial (pq_ac trivial (pq_ac trivial (pq_an))))))))))))))))))))))))))))))))))))))
set_option maxRecDepth 100000 in
theorem ck_75 : ∀ e ∈ ct_75, pq_ok "PursuitDesk" false e := pq_ac trivial (pq_ac trivial (pq_ac trivial (pq_ac trivial (pq_ac kF_8_10 (pq_ac kF_8_89 (pq_ac trivial (pq_ac trivial (pq_ac trivial (pq_ac trivial (pq_ac trivial (pq_an)))))))))))
set_option maxRecDepth 100000 in
theorem ck_76 : ∀ e ∈ ct_76, pq_ok "PursuitDesk" false e := pq_ac trivial (pq_ac kV_8_45 (pq_ac trivial (pq_ac kF_8_10 (pq_ac kV_8_105 (pq_ac trivial (pq_ac kV_8_108 (pq_ac trivial (pq_an))))))))
set_option maxRecDepth 100000 in
theorem ck_77 : ∀ e ∈ ct_77, pq_ok "PursuitDesk" false e := pq_ac trivial (pq_ac kF_8_10 (pq_ac kF_8_111 (pq_ac trivial (pq_ac kF_8_10 (pq_ac kF_8_115 (pq_ac kV_8_118 (pq_ac trivial (pq_an))))))))
set_option maxRecDepth 100000 in
theorem ck_78 : ∀ e ∈ ct_78, pq_ok "PursuitDesk" false e := pq_ac trivial (pq_ac trivial (pq_ac trivial (pq_ac trivial (pq_ac kF_8_10 (pq_ac kF_8_115 (pq_ac trivial (pq_ac trivial (pq_ac trivial (pq_ac trivial (pq_ac kF_8_10 (pq_ac kF_8_111 (pq_ac trivial (pq_ac kV_8_124 (pq_ac trivial (pq_ac trivial (pq_ac kF_8_10 (pq_ac kF_8_111 (pq_ac trivial (pq_ac kV_8_118 (pq_ac trivial (pq_ac trivial (pq_ac trivial (pq_an)))))))))))))))))))))))
set_option maxRecDepth 100000 in
theorem ck_79 : ∀ e ∈ ct_79, pq_ok "PursuitDesk" false e := pq_ac trivial (pq_ac trivial (pq_ac trivial (pq_ac trivial (pq_ac kF_8_10 (pq_ac kF_8_115 (pq_ac trivial (pq_ac trivial (pq_ac trivial (pq_ac kV_8_52 (pq_ac trivial (pq_ac trivial (pq_ac trivial (pq_ac trivial (pq_ac kF_8_10 (pq_ac kF_8_111 (pq_ac trivial (pq_ac kV_8_124 (pq_ac trivial (pq_ac trivial (pq_ac trivial (pq_ac trivial (pq_ac kF_8_10 (pq_ac kF_8_111 (pq_ac trivial (pq_ac kV_8_118 (pq_ac trivial (pq_ac kS_8_127 (pq_ac trivial (pq_ac trivial (pq_ac trivial (pq_ac trivial (pq_ac kV_8_45 (pq_ac trivial (pq_ac kF_8_10 (pq_ac kF_8_111 (pq_ac trivial (pq_ac trivial (pq_ac kV_8_130 (pq_ac trivial (pq_ac kV_8_108 (pq_ac trivial (pq_an))))))))))))))))))))))))))))))))))))))))))
set_option maxRecDepth 100000 in
theorem ck_80 : ∀ e ∈ ct_80, pq_ok "PursuitDesk" false e := pq_ac trivial (pq_ac kF_8_10 (pq_ac kF_8_115 (pq_ac trivial (pq_ac trivial (pq_ac trivial (pq_ac trivial (pq_ac trivial (pq_ac kV_8_45 (pq_ac trivial (pq_ac kF_8_10 (pq_ac kV_8_133 (pq_ac trivial (pq_ac kF_8_10 (pq_ac kV_8_136 (pq_ac trivial (pq_ac kV_8_108 (pq_ac trivial (pq_an))))))))))))))))))
set_option maxRecDepth 100000 in
theorem ck_81 : ∀ e ∈ ct_81, pq_ok "PursuitDesk" false e := pq_ac trivial (pq_ac kF_8_139 (pq_ac trivial (pq_ac trivial (pq_ac trivial (pq_ac trivial (pq_ac trivial (pq_ac kF_8_139 (pq_ac trivial (pq_ac trivial (pq_ac kQ_8_139 (pq_ac trivial (pq_ac kF_8_10 (pq_ac trivial (pq_ac kF_8_16 (pq_ac trivial (pq_ac kF_8_139 (pq_ac trivial (pq_ac kV_8_142 (pq_ac trivial (pq_ac trivial (pq_ac kQ_8_146 (pq_ac trivial (pq_ac kF_8_139 (pq_ac trivial (pq_an)))))))))))))))))))))))))
set_option maxRecDepth 100000 in
theorem ck_82 : ∀ e ∈ ct_82, pq_ok "PursuitDesk" false e := pq_ac trivial (pq_ac trivial (pq_ac trivial (pq_ac kF_8_10 (pq_ac kF_8_48 (pq_ac trivial (pq_ac trivial (pq_ac kF_8_10 (pq_ac kV_8_86 (pq_ac trivial (pq_ac trivial (pq_ac kF_8_10 (pq_ac kF_8_89 (pq_ac trivial (pq_ac trivial (pq_ac kF_8_10 (pq_ac kF_8_115 (pq_ac trivial (pq_ac trivial (pq_ac kF_8_10 (pq_ac kF_8_111 (pq_ac kF_8_150 (pq_ac trivial (pq_ac trivial (pq_ac kF_8_10 (pq_ac kF_8_153 (pq_ac trivial (pq_ac trivial (pq_ac kF_8_10 (pq_ac kF_8_156 (pq_ac trivial (pq_ac trivial (pq_ac kF_8_139 (pq_ac trivial (pq_ac trivial (pq_ac trivial (pq_an))))))))))))))))))))))))))))))))))))
set_option maxRecDepth 100000 in
theorem ck_83 : ∀ e ∈ ct_83, pq_ok "PursuitDesk" false e := pq_ac trivial (pq_ac trivial (pq_ac kV_8_52 (pq_ac trivial (pq_ac trivial (pq_ac trivial (pq_ac trivial (pq_ac kF_8_10 (pq_ac kF_8_60 (pq_ac trivial (pq_ac kS_8_159 (pq_ac trivial (pq_ac trivial (pq_ac trivial (pq_ac trivial (pq_ac trivial (pq_ac trivial (pq_ac trivial (pq_an))))))))))))))))))
set_option maxRecDepth 100000 in
theorem ck_84 : ∀ e ∈ ct_84, pq_ok "PursuitDesk" false e := pq_ac trivial (pq_ac trivial (pq_ac kV_8_95 (pq_ac trivial (pq_ac trivial (pq_ac trivial (pq_ac trivial (pq_ac trivial (pq_ac trivial (pq_ac trivial (pq_ac trivial (pq_ac trivial (pq_ac trivial (pq_ac trivial (pq_ac kF_8_10 (pq_ac kF_8_98 (pq_ac trivial (pq_ac trivial (pq_ac trivial (pq_ac trivial (pq_ac kF_8_10 (pq_ac kF_8_102 (pq_ac trivial (pq_ac trivial (pq_ac trivial (pq_an)))))))))))))))))))))))))
set_option maxRecDepth 100000 in
theorem ck_85 : ∀ e ∈ ct_85, pq_ok "PursuitDesk" false e := pq_ac trivial (pq_ac trivial (pq_ac kV_8_52 (pq_ac trivial (pq_ac trivial (pq_ac trivial (pq_ac trivial (pq_ac kF_8_10 (pq_ac kV_8_163 (pq_ac trivial (pq_ac kS_8_127 (pq_ac trivial (pq_ac trivial (pq_ac trivial (pq_ac trivial (pq_ac kV_8_45 (pq_ac trivial (pq_ac kF_8_10 (pq_ac kF_8_166 (pq_ac trivial (pq_ac trivial (pq_ac kF_8_10 (pq_ac kF_8_115 (pq_ac kV_8_170 (pq_ac trivial (pq_ac kV_8_108 (pq_ac trivial (pq_ac kS_8_127 (pq_ac trivial (pq_ac trivial (pq_ac trivial (pq_ac trivial (pq_ac trivial (pq_an)))))))))))))))))))))))))))))))))
set_option maxRecDepth 100000 in
theorem ck_86 : ∀ e ∈ ct_86, pq_ok "PursuitDesk" false e := pq_ac trivial (pq_ac trivial (pq_ac kV_8_52 (pq_ac trivial (pq_ac trivial (pq_ac trivial (pq_ac trivial (pq_ac kF_8_10 (pq_ac kF_8_166 (pq_ac kV_8_175 (pq_ac trivial (pq_ac trivial (pq_ac kF_8_10 (pq_ac trivial (pq_ac kF_8_10 (pq_ac kF_8_166 (pq_ac kF_8_179 (pq_ac trivial (pq_ac kV_8_56 (pq_ac trivial (pq_ac trivial (pq_ac trivial (pq_ac trivial (pq_ac kV_8_45 (pq_ac trivial (pq_ac kF_8_10 (pq_ac kF_8_166 (pq_ac kF_8_182 (pq_ac trivial (pq_ac trivial (pq_ac kF_8_10 (pq_ac kF_8_166 (pq_ac trivial (pq_ac kQ_8_182 (pq_ac trivial (pq_ac trivial (pq_an))))))))))))))))))))))))))))))))))))
set_option maxRecDepth 100000 in
theorem ck_87 : ∀ e ∈ ct_87, pq_ok "PursuitDesk" false e := pq_ac trivial (pq_ac trivial (pq_ac trivial (pq_ac trivial (pq_ac trivial (pq_ac trivial (pq_ac trivial (pq_ac trivial (pq_ac trivial (pq_ac trivial (pq_ac trivial (pq_ac trivial (pq_ac trivial (pq_ac kV_8_45 (pq_ac trivial (pq_ac trivial (pq_ac kF_8_10 (pq_ac kF_8_153 (pq_ac trivial (pq_ac trivial (pq_ac kF_8_10 (pq_ac kF_8_156 (pq_ac trivial (pq_ac trivial (pq_ac trivial (pq_ac kF_8_10 (pq_ac trivial (pq_ac kQ_8_153 (pq_ac trivial (pq_ac kF_8_10 (pq_ac trivial (pq_ac kQ_8_156 (pq_ac trivial (pq_ac trivial (pq_an))))))))))))))))))))))))))))))))))
set_option maxRecDepth 100000 in
theorem ck_88 : ∀ e ∈ ct_88, pq_ok "PursuitDesk" false e := pq_ac trivial (pq_ac trivial (pq_ac trivial (pq_ac trivial (pq_ac trivial (pq_ac trivial (pq_ac trivial (pq_ac trivial (pq_ac kF_8_10 (pq_ac kF_8_166 (pq_ac kF_8_184 (pq_ac trivial (pq_ac trivial (pq_ac kF_8_10 (pq_ac kF_8_166 (pq_ac trivial (pq_ac kV_8_187 (pq_ac trivial (pq_ac trivial (pq_ac trivial (pq_an))))))))))))))))))))
set_option maxRecDepth 100000 in
theorem ck_89 : ∀ e ∈ ct_89, pq_ok "PursuitDesk" false e := pq_ac trivial (pq_ac kF_8_10 (pq_ac trivial (pq_ac kF_8_10 (pq_ac kF_8_102 (pq_ac kV_8_190 (pq_ac trivial (pq_ac kV_8_108 (pq_ac kS_8_194 (pq_ac trivial (pq_an))))))))))
set_option maxRecDepth 100000 in
theorem ck_90 : ∀ e ∈ ct_90, pq_ok "PursuitDesk" false e := pq_ac trivial (pq_ac kV_8_197 (pq_ac trivial (pq_ac kF_8_27 (pq_ac kV_8_200 (pq_ac trivial (pq_an))))))
set_option maxRecDepth 100000 in
theorem ck_91 : ∀ e ∈ ct_91, pq_ok "PursuitDesk" false e := pq_ac trivial (pq_ac kF_8_146 (pq_ac trivial (pq_ac trivial (pq_ac trivial (pq_ac kF_8_27 (pq_ac trivial (pq_ac kF_8_10 (pq_ac kF_8_48 (pq_ac trivial (pq_ac kF_8_10 (pq_ac kF_8_60 (pq_ac trivial (pq_ac kF_8_10 (pq_ac kF_8_89 (pq_ac kV_8_231 (pq_ac trivial (pq_ac kF_8_27 (pq_ac kV_8_232 (pq_ac trivial (pq_ac kF_8_27 (pq_ac trivial (pq_ac kF_8_27 (pq_ac trivial (pq_ac kF_8_10 (pq_ac kF_8_98 (pq_ac trivial (pq_ac kV_8_108 (pq_ac kV_8_235 (pq_ac trivial (pq_ac kV_8_236 (pq_ac trivial (pq_ac kF_8_27 (pq_ac kV_8_239 (pq_ac trivial (pq_ac trivial (pq_ac kQ_8_146 (pq_ac trivial (pq_an))))))))))))))))))))))))))))))))))))))
set_option maxRecDepth 100000 in
theorem ck_92 : ∀ e ∈ ct_92, pq_ok "PursuitDesk" false e := pq_ac trivial (pq_ac trivial (pq_ac trivial (pq_ac trivial (pq_ac kV_8_95 (pq_ac trivial (pq_ac trivial (pq_ac trivial (pq_ac trivial (pq_ac kV_8_197 (pq_ac trivial (pq_ac trivial (pq_ac kF_8_27 (pq_ac kV_8_200 (pq_ac trivial (pq_ac trivial (pq_ac trivial (pq_ac trivial (pq_ac kF_8_27 (pq_ac trivial (pq_ac trivial (pq_ac trivial (pq_ac trivial (pq_ac kV_8_203 (pq_ac trivial (pq_an)))))))))))))))))))))))))
set_option maxRecDepth 100000 in
theorem ck_93 : ∀ e ∈ ct_93, pq_ok "PursuitDesk" false e := pq_ac trivial (pq_ac kF_8_37 (pq_ac trivial (pq_ac kF_8_10 (pq_ac kF_8_48 (pq_ac trivial (pq_ac kF_8_10 (pq_ac kF_8_60 (pq_ac trivial (pq_ac kF_8_10 (pq_ac kF_8_89 (pq_ac kV_8_207 (pq_ac trivial (pq_ac kF_8_37 (pq_ac trivial (pq_ac kF_8_37 (pq_ac trivial (pq_ac kF_8_10 (pq_ac kF_8_98 (pq_ac trivial (pq_ac kV_8_108 (pq_ac kV_8_211 (pq_ac kV_8_215 (pq_ac trivial (pq_an))))))))))))))))))))))))
set_option maxRecDepth 100000 in
theorem ck_94 : ∀ e ∈ ct_94, pq_ok "PursuitDesk" false e := pq_ac trivial (pq_ac kF_8_10 (pq_ac trivial (pq_ac kF_8_10 (pq_ac kF_8_98 (pq_ac kV_8_190 (pq_ac trivial (pq_ac trivial (pq_ac kV_8_108 (pq_ac trivial (pq_ac trivial (pq_ac trivial (pq_ac trivial (pq_ac trivial (pq_ac trivial (pq_ac trivial (pq_ac trivial (pq_ac kS_8_194 (pq_ac trivial (pq_ac trivial (pq_ac trivial (pq_ac trivial (pq_ac trivial (pq_ac trivial (pq_ac trivial (pq_ac trivial (pq_ac trivial (pq_ac trivial (pq_ac trivial (pq_ac trivial (pq_an))))))))))))))))))))))))))))))
set_option maxRecDepth 100000 in
theorem ck_95 : ∀ e ∈ ct_95, pq_ok "PursuitDesk" false e := pq_ac trivial (pq_ac trivial (pq_ac trivial (pq_ac trivial (pq_ac trivial (pq_ac trivial (pq_ac trivial (pq_ac kV_8_218 (pq_ac trivial (pq_ac trivial (pq_ac trivial (pq_ac trivial (pq_ac trivial (pq_ac trivial (pq_ac trivial (pq_ac trivial (pq_an))))))))))))))))
set_option maxRecDepth 100000 in
theorem ck_96 : ∀ e ∈ ct_96, pq_ok "PursuitDesk" false e := pq_ac trivial (pq_ac kF_8_31 (pq_ac trivial (pq_ac kF_8_10 (pq_ac kF_8_48 (pq_ac trivial (pq_ac kF_8_10 (pq_ac kF_8_60 (pq_ac trivial (pq_ac kV_8_231 (pq_ac trivial (pq_ac kF_8_31 (pq_ac kV_8_232 (pq_ac trivial (pq_ac kF_8_31 (pq_ac kV_8_242 (pq_ac trivial (pq_ac kF_8_31 (pq_ac kV_8_239 (pq_ac trivial (pq_ac kF_8_31 (pq_ac kV_8_200 (pq_ac trivial (pq_an)))))))))))))))))))))))
set_option maxRecDepth 100000 in
theorem ck_97 : ∀ e ∈ ct_97, pq_ok "PursuitDesk" false e := pq_ac trivial (pq_ac trivial (pq_ac trivial (pq_ac trivial (pq_ac trivial (pq_ac trivial (pq_ac trivial (pq_ac trivial (pq_ac trivial (pq_ac trivial (pq_ac kV_8_218 (pq_ac trivial (pq_an))))))))))))
set_option maxRecDepth 100000 in
theorem ck_98 : ∀ e ∈ ct_98, pq_ok "PursuitDesk" false e := pq_ac trivial (pq_ac trivial (pq_ac trivial (pq_ac trivial (pq_ac trivial (pq_ac trivial (pq_ac trivial (pq_ac trivial (pq_ac trivial (pq_ac kF_8_221 (pq_ac trivial (pq_ac trivial (pq_ac trivial (pq_ac trivial (pq_ac trivial (pq_ac kF_8_20 (pq_ac trivial (pq_ac kF_8_221 (pq_ac trivial (pq_ac trivial (pq_ac trivial (pq_ac trivial (pq_ac trivial (pq_ac kF_8_221 (pq_ac trivial (pq_ac trivial (pq_ac kQ_8_221 (pq_ac trivial (pq_ac kF_8_221 (pq_ac trivial (pq_an))))))))))))))))))))))))))))))
set_option maxRecDepth 100000 in
theorem ck_99 : ∀ e ∈ ct_99, pq_ok "PursuitDesk" false e := pq_ac trivial (pq_ac kF_8_221 (pq_ac trivial (pq_ac trivial (pq_ac trivial (pq_ac kQ_8_221 (pq_ac trivial (pq_ac trivial (pq_an))))))))
set_option maxRecDepth 100000 in
theorem ck_100 : ∀ e ∈ ct_100, pq_ok "PursuitDeskModel" true e := pq_ac trivial (pq_ac kO_9_1 (pq_ac trivial (pq_ac trivial (pq_ac trivial (pq_ac kQ_9_7i (pq_ac trivial (pq_ac trivial (pq_ac trivial (pq_ac kQ_9_13i (pq_ac trivial (pq_ac trivial (pq_ac trivial (pq_ac kQ_9_16i (pq_ac trivial (pq_ac trivial (pq_ac trivial (pq_ac kQ_9_20i (pq_ac trivial (pq_ac trivial (pq_ac trivial (pq_ac kQ_9_23i (pq_ac trivial (pq_ac trivial (pq_ac trivial (pq_ac kQ_9_26i (pq_ac trivial (pq_ac kC_9_29 (pq_ac trivial (pq_ac kQ_9_30i (pq_ac trivial (pq_ac kC_9_29 (pq_ac trivial (pq_ac kQ_9_33i (pq_ac trivial (pq_ac kC_9_29 (pq_ac trivial (pq_ac kQ_9_36i (pq_ac trivial (pq_ac trivial (pq_ac trivial (pq_ac kQ_9_39i (pq_ac trivial (pq_ac kF_9_7 (pq_ac trivial (pq_ac trivial (pq_ac trivial (pq_ac trivial (pq_ac kV_9_42 (pq_ac trivial (pq_an))))))))))))))))))))))))))))))))))))))))))))))))))
set_option maxRecDepth 100000 in
theorem ck_101 : ∀ e ∈ ct_101, pq_ok "PursuitDeskModel" false e := pq_ac trivial (pq_ac kV_9_49 (pq_ac trivial (pq_ac trivial (pq_ac trivial (pq_ac trivial (pq_ac trivial (pq_ac kF_9_7 (pq_ac trivial (pq_ac trivial (pq_ac trivial (pq_ac trivial (pq_ac trivial (pq_ac trivial (pq_ac kF_9_7 (pq_ac trivial (pq_ac trivial (pq_ac trivial (pq_ac trivial (pq_ac trivial (pq_ac trivial (pq_ac trivial (pq_ac trivial (pq_ac trivial (pq_ac trivial (pq_ac trivial (pq_ac trivial (pq_ac kF_9_7 (pq_ac trivial (pq_ac trivial (pq_ac trivial (pq_ac trivial (pq_ac kF_9_7 (pq_ac trivial (pq_ac trivial (pq_ac trivial (pq_ac trivial (pq_ac kF_9_7 (pq_ac trivial (pq_ac trivial (pq_ac kF_9_7 (pq_ac trivial (pq_ac trivial (pq_ac trivial (pq_ac trivial (pq_ac trivial (pq_ac kF_9_7 (pq_ac trivial (pq_ac trivial (pq_ac trivial (pq_ac trivial (pq_ac trivial (pq_ac trivial (pq_an)))))))))))))))))))))))))))))))))))))))))))))))))))))
set_option maxRecDepth 100000 in
theorem ck_102 : ∀ e ∈ ct_102, pq_ok "PursuitDeskModel" false e := pq_ac trivial (pq_ac trivial (pq_ac kF_9_7 (pq_ac trivial (pq_ac trivial (pq_ac trivial (pq_ac trivial (pq_ac trivial (pq_ac trivial (pq_an)))))))))
set_option maxRecDepth 100000 in
theorem ck_103 : ∀ e ∈ ct_103, pq_ok "PursuitDeskModel" false e := pq_ac trivial (pq_ac trivial (pq_ac trivial (pq_ac kS_9_45 (pq_ac trivial (pq_ac trivial (pq_ac trivial (pq_ac trivial (pq_ac kV_9_57 (pq_ac trivial (pq_ac kF_9_7 (pq_ac trivial (pq_ac trivial (pq_ac trivial (pq_ac trivial (pq_ac kF_9_7 (pq_ac trivial (pq_ac trivial (pq_ac trivial (pq_ac trivial (pq_ac kF_9_7 (pq_ac trivial (pq_ac trivial (pq_ac trivial (pq_ac trivial (pq_ac kF_9_7 (pq_ac trivial (pq_ac trivial (pq_ac trivial (pq_ac trivial (pq_ac kF_9_7 (pq_ac trivial (pq_ac trivial (pq_ac trivial (pq_ac trivial (pq_ac trivial (pq_ac trivial (pq_ac trivial (pq_ac trivial (pq_ac trivial (pq_ac kF_9_7 (pq_ac trivial (pq_ac trivial (pq_ac trivial (pq_ac trivial (pq_ac trivial (pq_ac trivial (pq_ac trivial (pq_ac trivial (pq_ac kV_9_42 (pq_ac trivial (pq_ac trivial (pq_an))))))))))))))))))))))))))))))))))))))))))))))))))))
set_option maxRecDepth 100000 in
theorem ck_104 : ∀ e ∈ ct_104, pq_ok "PursuitDeskModel" false e := pq_ac trivial (pq_ac trivial (pq_ac trivial (pq_ac trivial (pq_ac trivial (pq_ac trivial (pq_ac trivial (pq_ac trivial (pq_ac trivial (pq_ac trivial (pq_an))))))))))
set_option maxRecDepth 100000 in
theorem ck_105 : ∀ e ∈ ct_105, pq_ok "PursuitDeskModel" false e := pq_ac trivial (pq_ac kF_9_53 (pq_ac trivial (pq_ac trivial (pq_ac trivial (pq_ac trivial (pq_ac trivial (pq_ac trivial (pq_ac trivial (pq_ac trivial (pq_ac kF_9_13 (pq_ac trivial (pq_ac trivial (pq_ac kF_9_13 (pq_ac trivial (pq_ac trivial (pq_ac trivial (pq_ac trivial (pq_ac trivial (pq_ac trivial (pq_ac trivial (pq_ac trivial (pq_ac trivial (pq_ac kF_9_53 (pq_ac trivial (pq_ac trivial (pq_ac kQ_9_53 (pq_ac trivial (pq_ac trivial (pq_ac trivial (pq_ac trivial (pq_ac trivial (pq_ac trivial (pq_ac kF_9_13 (pq_ac trivial (pq_ac trivial (pq_ac kF_9_53 (pq_ac trivial (pq_ac trivial (pq_ac trivial (pq_ac trivial (pq_ac kF_9_7 (pq_ac trivial (pq_ac trivial (pq_ac trivial (pq_ac trivial (pq_ac trivial (pq_ac trivial (pq_ac trivial (pq_ac kF_9_53 (pq_ac trivial (pq_ac trivial (pq_ac kQ_9_53 (pq_ac trivial (pq_an))))))))))))))))))))))))))))))))))))))))))))))))))))))
set_option maxRecDepth 100000 in
theorem ck_106 : ∀ e ∈ ct_106, pq_ok "PursuitDeskModel" false e := pq_ac trivial (pq_ac trivial (pq_ac kV_9_60 (pq_ac trivial (pq_ac trivial (pq_ac trivial (pq_ac kV_9_60 (pq_ac trivial (pq_ac trivial (pq_ac trivial (pq_ac trivial (pq_ac trivial (pq_ac trivial (pq_ac trivial (pq_ac kS_9_45 (pq_ac trivial (pq_ac trivial (pq_ac trivial (pq_ac trivial (pq_ac kV_9_57 (pq_ac trivial (pq_ac kF_9_7 (pq_ac trivial (pq_ac trivial (pq_ac trivial (pq_ac trivial (pq_ac trivial (pq_ac trivial (pq_ac trivial (pq_ac trivial (pq_ac trivial (pq_ac trivial (pq_ac trivial (pq_ac trivial (pq_ac trivial (pq_ac kV_9_64 (pq_ac trivial (pq_ac trivial (pq_ac trivial (pq_ac trivial (pq_ac kF_9_7 (pq_ac trivial (pq_ac trivial (pq_ac trivial (pq_ac trivial (pq_ac kF_9_7 (pq_ac trivial (pq_ac trivial (pq_ac trivial (pq_ac trivial (pq_ac trivial (pq_ac kF_9_7 (pq_ac trivial (pq_ac trivial (pq_ac trivial (pq_ac trivial (pq_ac trivial (pq_ac kF_9_7 (pq_ac trivial (pq_ac trivial (pq_ac trivial (pq_ac trivial (pq_ac kV_9_68 (pq_ac trivial (pq_ac trivial (pq_ac kF_9_7 (pq_ac trivial (pq_ac trivial (pq_ac trivial (pq_ac trivial (pq_ac trivial (pq_ac trivial (pq_ac kF_9_7 (pq_ac trivial (pq_ac trivial (pq_ac trivial (pq_ac trivial (pq_ac trivial (pq_ac trivial (pq_ac trivial (pq_ac trivial (pq_ac kF_9_7 (pq_ac trivial (pq_ac trivial (pq_ac trivial (pq_ac trivial (pq_ac trivial (pq_ac trivial (pq_ac kF_9_7 (pq_ac trivial (pq_ac trivial (pq_ac trivial (pq_ac kF_9_7 (pq_ac trivial (pq_ac trivial (pq_ac kV_9_68 (pq_ac trivial (pq_ac trivial (pq_ac kF_9_7 (pq_ac trivial (pq_ac trivial (pq_ac kF_9_7 (pq_ac trivial (pq_ac trivial (pq_ac trivial (pq_ac trivial (pq_ac trivial (pq_an)))))))))))))))))))))))))))))))))))))))))))))))))))))))))))))))))))))))))))))))))))))))))))))))))))))))))))
set_option maxRecDepth 100000 in
theorem ck_107 : ∀ e ∈ ct_107, pq_ok "PursuitDeskModel" false e := pq_ac trivial (pq_ac trivial (pq_ac trivial (pq_ac kF_9_7 (pq_ac trivial (pq_ac trivial (pq_ac trivial (pq_ac trivial (pq_ac kS_9_45 (pq_ac trivial (pq_an))))))))))
set_option maxRecDepth 100000 in
theorem ck_108 : ∀ e ∈ ct_108, pq_ok "PursuitDeskModel" false e := pq_ac trivial (pq_ac kF_9_7 (pq_ac trivial (pq_ac trivial (pq_ac trivial (pq_ac trivial (pq_ac kF_9_7 (pq_ac trivial (pq_ac trivial (pq_ac trivial (pq_ac trivial (pq_ac trivial (pq_ac trivial (pq_ac trivial (pq_ac trivial (pq_ac trivial (pq_ac trivial (pq_ac trivial (pq_ac trivial (pq_ac trivial (pq_ac trivial (pq_ac trivial (pq_ac trivial (pq_ac kF_9_7 (pq_ac trivial (pq_ac trivial (pq_ac trivial (pq_ac trivial (pq_ac kF_9_7 (pq_ac trivial (pq_ac trivial (pq_ac trivial (pq_ac trivial (pq_ac trivial (pq_ac trivial (pq_ac trivial (pq_ac trivial (pq_ac trivial (pq_ac trivial (pq_ac trivial (pq_ac trivial (pq_ac trivial (pq_ac trivial (pq_ac trivial (pq_ac trivial (pq_an)))))))))))))))))))))))))))))))))))))))))))))
set_option maxRecDepth 100000 in
theorem ck_109 : ∀ e ∈ ct_109, pq_ok "PursuitDeskModel" false e := pq_ac trivial (pq_ac trivial (pq_ac trivial (pq_ac trivial (pq_ac kF_9_7 (pq_ac trivial (pq_ac trivial (pq_ac trivial (pq_ac trivial (pq_ac trivial (pq_ac trivial (pq_ac trivial (pq_ac trivial (pq_ac trivial (pq_ac trivial (pq_ac trivial (pq_ac trivial (pq_ac trivial (pq_ac trivial (pq_an)))))))))))))))))))
set_option maxRecDepth 100000 in
theorem ck_110 : ∀ e ∈ ct_110, pq_ok "PursuitDeskModel" false e := pq_ac trivial (pq_ac trivial (pq_ac kV_9_60 (pq_ac trivial (pq_ac trivial (pq_ac trivial (pq_ac trivial (pq_ac kF_9_7 (pq_ac trivial (pq_ac trivial (pq_ac trivial (pq_ac trivial (pq_ac trivial (pq_ac trivial (pq_ac trivial (pq_ac kV_9_57 (pq_ac trivial (pq_ac kF_9_7 (pq_ac trivial (pq_ac trivial (pq_ac trivial (pq_ac trivial (pq_ac kF_9_7 (pq_ac trivial (pq_ac trivial (pq_ac trivial (pq_ac trivial (pq_ac trivial (pq_ac trivial (pq_ac kF_9_7 (pq_ac trivial (pq_ac trivial (pq_ac trivial (pq_ac trivial (pq_ac trivial (pq_ac trivial (pq_ac kF_9_7 (pq_ac trivial (pq_ac trivial (pq_ac trivial (pq_ac trivial (pq_ac trivial (pq_ac trivial (pq_ac trivial (pq_ac kF_9_7 (pq_ac trivial (pq_ac kV_9_72 (pq_ac trivial (pq_ac trivial (pq_ac trivial (pq_ac trivial (pq_ac trivial (pq_ac trivial (pq_ac trivial (pq_ac trivial (pq_ac trivial (pq_ac trivial (pq_ac kF_9_7 (pq_ac trivial (pq_ac trivial (pq_ac trivial (pq_ac trivial (pq_ac trivial (pq_ac kF_9_7 (pq_ac trivial (pq_ac trivial (pq_ac trivial (pq_ac trivial (pq_ac kF_9_7 (pq_ac trivial (pq_ac trivial (pq_ac trivial (pq_ac trivial (pq_ac trivial (pq_ac kF_9_7 (pq_ac trivial (pq_ac trivial (pq_ac trivial (pq_ac trivial (pq_ac kF_9_7 (pq_ac trivial (pq_ac trivial (pq_ac kF_9_7 (pq_ac trivial (pq_ac trivial (pq_ac trivial (pq_ac trivial (pq_ac kF_9_7 (pq_ac trivial (pq_ac trivial (pq_ac trivial (pq_ac trivial (pq_ac trivial (pq_an)))))))))))))))))))))))))))))))))))))))))))))))))))))))))))))))))))))))))))))))))))))))))))))
set_option maxRecDepth 100000 in
theorem ck_111 : ∀ e ∈ ct_111, pq_ok "PursuitDeskModel" false e := pq_ac trivial (pq_ac trivial (pq_ac trivial (pq_ac kF_9_7 (pq_ac trivial (pq_ac trivial (pq_ac trivial (pq_ac trivial (pq_ac trivial (pq_ac trivial (pq_ac trivial (pq_an)))))))))))
set_option maxRecDepth 100000 in
theorem ck_112 : ∀ e ∈ ct_112, pq_ok "PursuitDeskModel" false e := pq_ac trivial (pq_ac kF_9_7 (pq_ac trivial (pq_ac trivial (pq_ac trivial (pq_ac trivial (pq_ac trivial (pq_ac trivial (pq_ac kV_9_57 (pq_ac trivial (pq_ac kF_9_7 (pq_ac trivial (pq_ac trivial (pq_ac trivial (pq_ac trivial (pq_ac trivial (pq_ac trivial (pq_ac trivial (pq_ac kF_9_7 (pq_ac trivial (pq_ac trivial (pq_ac trivial (pq_an))))))))))))))))))))))
set_option maxRecDepth 100000 in
theorem ck_113 : ∀ e ∈ ct_113, pq_ok "PursuitDeskModel" false e := pq_ac trivial (pq_ac trivial (pq_ac kV_9_75 (pq_ac trivial (pq_ac trivial (pq_ac trivial (pq_ac kV_9_60 (pq_ac trivial (pq_ac trivial (pq_ac trivial (pq_ac trivial (pq_ac trivial (pq_ac kF_9_7 (pq_ac trivial (pq_ac trivial (pq_ac trivial (pq_ac trivial (pq_ac trivial (pq_ac kV_9_68 (pq_ac trivial (pq_ac trivial (pq_ac trivial (pq_ac trivial (pq_ac kV_9_57 (pq_ac trivial (pq_ac kF_9_7 (pq_ac trivial (pq_ac trivial (pq_ac trivial (pq_ac trivial (pq_ac trivial (pq_ac trivial (pq_ac kF_9_7 (pq_ac trivial (pq_ac trivial (pq_ac trivial (pq_ac trivial (pq_ac trivial (pq_ac trivial (pq_ac trivial (pq_an))))))))))))))))))))))))))))))))))))))))
set_option maxRecDepth 100000 in
theorem ck_114 : ∀ e ∈ ct_114, pq_ok "PursuitDeskModel" false e := pq_ac trivial (pq_ac trivial (pq_ac trivial (pq_ac kF_9_7 (pq_ac trivial (pq_ac trivial (pq_ac trivial (pq_ac trivial (pq_ac kS_9_45 (pq_ac trivial (pq_an))))))))))
set_option maxRecDepth 100000 in
theorem ck_115 : ∀ e ∈ ct_115, pq_ok "PursuitDeskModel" false e := pq_ac trivial (pq_ac kV_9_57 (pq_ac trivial (pq_ac kV_9_42 (pq_ac trivial (pq_ac kF_9_7 (pq_ac trivial (pq_ac trivial (pq_ac trivial (pq_an)))))))))
set_option maxRecDepth 100000 in
theorem ck_116 : ∀ e ∈ ct_116, pq_ok "PursuitDeskModel" false e := pq_ac trivial (pq_ac kF_9_7 (pq_ac trivial (pq_ac kV_9_72 (pq_ac trivial (pq_ac trivial (pq_an))))))
set_option maxRecDepth 100000 in
theorem ck_117 : ∀ e ∈ ct_117, pq_ok "PursuitDeskModel" false e := pq_ac trivial (pq_ac trivial (pq_ac trivial (pq_ac kF_9_7 (pq_ac trivial (pq_ac trivial (pq_ac kS_9_45 (pq_ac trivial (pq_ac trivial (pq_ac trivial (pq_ac trivial (pq_ac trivial (pq_ac kV_9_78 (pq_ac trivial (pq_ac trivial (pq_ac trivial (pq_ac trivial (pq_ac trivial (pq_ac trivial (pq_ac kF_9_7 (pq_ac trivial (pq_ac trivial (pq_ac trivial (pq_an)))))))))))))))))))))))
set_option maxRecDepth 100000 in
theorem ck_118 : ∀ e ∈ ct_118, pq_ok "PursuitDeskModel" false e := pq_ac trivial (pq_ac kF_9_7 (pq_ac trivial (pq_ac trivial (pq_ac trivial (pq_ac trivial (pq_ac trivial (pq_ac kF_9_7 (pq_ac trivial (pq_ac trivial (pq_ac trivial (pq_ac trivial (pq_ac trivial (pq_ac trivial (pq_ac trivial (pq_ac trivial (pq_ac trivial (pq_ac trivial (pq_ac trivial (pq_ac trivial (pq_ac trivial (pq_ac trivial (pq_ac trivial (pq_ac trivial (pq_an))))))))))))))))))))))))
set_option maxRecDepth 100000 in
theorem ck_119 : ∀ e ∈ ct_119, pq_ok "PursuitDeskModel" false e := pq_ac trivial (pq_ac trivial (pq_ac trivial (pq_ac kF_9_7 (pq_ac trivial (pq_ac trivial (pq_ac kS_9_45 (pq_ac trivial (pq_ac trivial (pq_ac trivial (pq_ac kV_9_60 (pq_ac trivial (pq_ac trivial (pq_ac trivial (pq_ac trivial (pq_ac trivial (pq_ac kV_9_78 (pq_ac trivial (pq_ac trivial (pq_ac trivial (pq_ac trivial (pq_ac trivial (pq_ac trivial (pq_ac kF_9_7 (pq_ac trivial (pq_ac trivial (pq_ac trivial (pq_ac trivial (pq_ac trivial (pq_ac trivial (pq_ac trivial (pq_ac trivial (pq_ac trivial (pq_ac trivial (pq_ac kV_9_57 (pq_ac trivial (pq_ac trivial (pq_ac trivial (pq_ac kV_9_86 (pq_ac trivial (pq_ac kV_9_90 (pq_ac trivial (pq_an))))))))))))))))))))))))))))))))))))))))))
set_option maxRecDepth 100000 in
theorem ck_120 : ∀ e ∈ ct_120, pq_ok "PursuitDeskModel" false e := pq_ac trivial (pq_ac kF_9_7 (pq_ac trivial (pq_ac trivial (pq_ac trivial (pq_ac trivial (pq_ac trivial (pq_ac trivial (pq_ac trivial (pq_ac trivial (pq_ac trivial (pq_ac kF_9_7 (pq_ac trivial (pq_ac trivial (pq_ac trivial (pq_ac trivial (pq_ac trivial (pq_ac trivial (pq_ac trivial (pq_ac trivial (pq_ac trivial (pq_ac trivial (pq_ac trivial (pq_ac kV_9_72 (pq_ac trivial (pq_ac trivial (pq_ac trivial (pq_ac trivial (pq_ac trivial (pq_ac trivial (pq_ac trivial (pq_ac kF_9_26 (pq_ac trivial (pq_ac trivial (pq_ac kF_9_7 (pq_ac trivial (pq_ac trivial (pq_ac trivial (pq_ac trivial (pq_ac trivial (pq_ac trivial (pq_ac trivial (pq_ac trivial (pq_ac trivial (pq_ac trivial (pq_ac trivial (pq_ac trivial (pq_ac trivial (pq_ac trivial (pq_ac trivial (pq_ac kF_9_20 (pq_ac trivial (pq_ac trivial (pq_ac kF_9_7 (pq_ac trivial (pq_ac trivial (pq_ac trivial (pq_ac trivial (pq_ac trivial (pq_ac trivial (pq_ac trivial (pq_ac trivial (pq_ac kF_9_23 (pq_ac trivial (pq_ac trivial (pq_ac kF_9_7 (pq_ac trivial (pq_ac trivial (pq_ac trivial (pq_ac trivial (pq_ac trivial (pq_ac trivial (pq_ac trivial (pq_ac trivial (pq_ac trivial (pq_ac trivial (pq_ac kF_9_7 (pq_ac trivial (pq_ac trivial (pq_ac trivial (pq_ac trivial (pq_ac trivial (pq_ac kF_9_7 (pq_ac trivial (pq_ac trivial (pq_ac trivial (pq_ac trivial (pq_ac trivial (pq_ac kF_9_7 (pq_ac trivial (pq_ac trivial (pq_ac trivial (pq_ac trivial (pq_ac kV_9_82 (pq_ac trivial (pq_ac trivial (pq_ac trivial (pq_ac trivial (pq_ac trivial (pq_an)))))))))))))))))))))))))))))))))))))))))))))))))))))))))))))))))))))))))))))))))))))))))))))))))))
set_option maxRecDepth 100000 in
theorem ck_121 : ∀ e ∈ ct_121, pq_ok "PursuitDeskModel" false e := pq_ac trivial (pq_ac trivial (pq_ac trivial (pq_ac trivial (pq_ac trivial (pq_ac trivial (pq_ac kF_9_7 (pq_ac trivial (pq_ac trivial (pq_ac trivial (pq_ac trivial (pq_ac trivial (pq_ac kF_9_26 (pq_ac trivial (pq_ac trivial (pq_ac trivial (pq_ac trivial (pq_ac trivial (pq_ac trivial (pq_ac trivial (pq_ac trivial (pq_ac trivial (pq_ac trivial (pq_ac trivial (pq_ac trivial (pq_ac trivial (pq_ac trivial (pq_ac trivial (pq_ac trivial (pq_ac trivial (pq_ac trivial (pq_ac kF_9_23 (pq_ac trivial (pq_ac trivial (pq_ac trivial (pq_ac trivial (pq_ac trivial (pq_ac trivial (pq_ac trivial (pq_ac trivial (pq_ac trivial (pq_ac trivial (pq_ac kF_9_20 (pq_ac trivial (pq_ac trivial (pq_ac trivial (pq_ac trivial (pq_ac trivial (pq_ac kF_9_23 (pq_ac trivial (pq_ac trivial (pq_ac trivial (pq_ac trivial (pq_ac trivial (pq_ac trivial (pq_ac kF_9_23 (pq_ac trivial (pq_ac trivial (pq_ac trivial (pq_ac trivial (pq_ac trivial (pq_ac trivial (pq_ac trivial (pq_ac trivial (pq_ac trivial (pq_ac trivial (pq_ac trivial (pq_ac trivial (pq_ac trivial (pq_ac trivial (pq_ac trivial (pq_ac trivial (pq_ac trivial (pq_ac trivial (pq_ac trivial (pq_ac trivial (pq_ac trivial (pq_ac trivial (pq_ac trivial (pq_ac trivial (pq_ac trivial (pq_ac trivial (pq_ac trivial (pq_an)))))))))))))))))))))))))))))))))))))))))))))))))))))))))))))))))))))))))))))))))))
set_option maxRecDepth 100000 in
theorem ck_122 : ∀ e ∈ ct_122, pq_ok "PursuitDeskModel" false e := pq_ac trivial (pq_ac kF_9_7 (pq_ac trivial (pq_ac trivial (pq_ac trivial (pq_ac trivial (pq_ac trivial (pq_ac trivial (pq_ac trivial (pq_ac kV_9_57 (pq_ac trivial (pq_ac kV_9_93 (pq_ac trivial (pq_ac trivial (pq_ac kV_9_90 (pq_ac trivial (pq_ac kF_9_7 (pq_ac trivial (pq_ac trivial (pq_ac kV_9_82 (pq_ac trivial (pq_ac trivial (pq_ac kF_9_7 (pq_ac trivial (pq_ac trivial (pq_ac trivial (pq_ac trivial (pq_ac trivial (pq_ac trivial (pq_ac trivial (pq_ac kV_9_96 (pq_ac trivial (pq_ac kV_9_99 (pq_ac trivial (pq_ac kV_9_72 (pq_ac trivial (pq_ac trivial (pq_ac kF_9_7 (pq_ac trivial (pq_ac trivial (pq_ac trivial (pq_ac trivial (pq_ac kF_9_7 (pq_ac trivial (pq_ac trivial (pq_ac trivial (pq_ac trivial (pq_ac kF_9_7 (pq_ac trivial (pq_ac trivial (pq_ac trivial (pq_ac trivial (pq_ac trivial (pq_ac kF_9_7 (pq_ac trivial (pq_ac trivial (pq_ac trivial (pq_ac trivial (pq_ac trivial (pq_ac trivial (pq_ac trivial (pq_ac trivial (pq_ac trivial (pq_ac trivial (pq_ac trivial (pq_ac kF_9_7 (pq_ac trivial (pq_ac trivial (pq_ac trivial (pq_ac trivial (pq_ac trivial (pq_ac trivial (pq_ac kF_9_26 (pq_ac trivial (pq_ac trivial (pq_ac trivial (pq_ac trivial (pq_ac trivial (pq_ac trivial (pq_ac kF_9_7 (pq_ac trivial (pq_ac trivial (pq_ac trivial (pq_ac trivial (pq_ac kF_9_7 (pq_ac trivial (pq_ac trivial (pq_ac trivial (pq_ac trivial (pq_ac trivial (pq_ac trivial (pq_ac trivial (pq_ac trivial (pq_ac trivial (pq_ac kF_9_7 (pq_ac trivial (pq_ac trivial (pq_ac trivial (pq_ac trivial (pq_ac trivial (pq_ac trivial (pq_ac kF_9_20 (pq_ac trivial (pq_ac trivial (pq_ac trivial (pq_ac trivial (pq_ac kF_9_7 (pq_ac trivial (pq_ac trivial (pq_ac trivial (pq_ac trivial (pq_ac trivial (pq_ac trivial (pq_ac kF_9_23 (pq_ac trivial (pq_ac trivial (pq_ac trivial (pq_ac trivial (pq_ac trivial (pq_ac trivial (pq_ac trivial (pq_ac trivial (pq_ac trivial (pq_ac kF_9_7 (pq_ac trivial (pq_ac trivial (pq_ac trivial (pq_ac trivial (pq_ac kF_9_7 (pq_ac trivial (pq_ac trivial (pq_ac trivial (pq_ac trivial (pq_ac kF_9_7 (pq_ac trivial (pq_ac trivial (pq_ac trivial (pq_ac trivial (pq_ac trivial (pq_ac trivial (pq_ac trivial (pq_ac trivial (pq_ac kF_9_7 (pq_ac trivial (pq_ac trivial (pq_ac kF_9_7 (pq_ac trivial (pq_ac trivial (pq_ac trivial (pq_ac trivial (pq_ac kF_9_7 (pq_ac trivial (pq_ac trivial (pq_ac trivial (pq_ac trivial (pq_ac trivial (pq_ac kF_9_7 (pq_ac trivial (pq_ac trivial (pq_ac trivial (pq_ac trivial (pq_ac kF_9_7 (pq_ac trivial (pq_ac trivial (pq_ac trivial (pq_ac trivial (pq_ac kF_9_7 (pq_ac trivial (pq_ac trivial (pq_ac trivial (pq_ac kF_9_7 (pq_ac trivial (pq_ac trivial (pq_ac trivial (pq_ac trivial (pq_ac trivial (pq_ac kF_9_7 (pq_ac trivial (pq_ac trivial (pq_ac trivial (pq_ac kF_9_7 (pq_ac trivial (pq_ac trivial (pq_ac trivial (pq_ac trivial (pq_ac kF_9_7 (pq_ac trivial (pq_ac trivial (pq_ac trivial (pq_ac kF_9_7 (pq_ac trivial (pq_ac trivial (pq_ac trivial (pq_ac trivial (pq_ac trivial (pq_ac trivial (pq_ac kV_9_78 (pq_ac trivial (pq_ac trivial (pq_ac kF_9_7 (pq_ac trivial (pq_ac trivial (pq_ac trivial (pq_ac trivial (pq_ac trivial (pq_ac trivial (pq_ac trivial (pq_ac kV_9_78 (pq_ac trivial (pq_ac kF_9_7 (pq_ac trivial (pq_ac trivial (pq_ac kV_9_78 (pq_ac trivial (pq_ac trivial (pq_ac trivial (pq_ac kV_9_86 (pq_ac trivial (pq_ac kV_9_90 (pq_ac trivial (pq_an))))))))))))))))))))))))))))))))))))))))))))))))))))))))))))))))))))))))))))))))))))))))))))))))))))))))))))))))))))))))))))))))))))))))))))))))))))))))))))))))))))))))))))))))))))))))))))))))))))))))))))))))))))))))))))
set_option maxRecDepth 100000 in
theorem ck_123 : ∀ e ∈ ct_123, pq_ok "PursuitDeskModel" false e := pq_ac trivial (pq_ac trivial (pq_ac trivial (pq_ac trivial (pq_ac trivial (pq_ac trivial (pq_ac kF_9_26 (pq_ac trivial (pq_ac trivial (pq_ac kF_9_7 (pq_ac trivial (pq_ac trivial (pq_ac trivial (pq_ac trivial (pq_ac trivial (pq_ac trivial (pq_ac trivial (pq_ac trivial (pq_ac trivial (pq_ac trivial (pq_ac trivial (pq_ac trivial (pq_ac trivial (pq_ac kF_9_20 (pq_ac trivial (pq_ac trivial (pq_ac kF_9_7 (pq_ac trivial (pq_ac trivial (pq_ac trivial (pq_ac trivial (pq_ac trivial (pq_ac trivial (pq_ac kF_9_23 (pq_ac trivial (pq_ac trivial (pq_ac kF_9_7 (pq_ac trivial (pq_ac trivial (pq_ac trivial (pq_ac trivial (pq_ac trivial (pq_ac trivial (pq_ac trivial (pq_ac trivial (pq_an)))))))))))))))))))))))))))))))))))))))))))))
set_option maxRecDepth 100000 in
theorem ck_124 : ∀ e ∈ ct_124, pq_ok "PursuitDeskModel" false e := pq_ac trivial (pq_ac kF_9_7 (pq_ac trivial (pq_ac trivial (pq_ac trivial (pq_ac trivial (pq_ac kF_9_7 (pq_ac trivial (pq_ac trivial (pq_ac trivial (pq_ac trivial (pq_ac trivial (pq_ac trivial (pq_ac kF_9_7 (pq_ac trivial (pq_ac trivial (pq_ac trivial (pq_ac trivial (pq_ac kF_9_7 (pq_ac trivial (pq_ac trivial (pq_ac trivial (pq_ac trivial (pq_ac trivial (pq_ac trivial (pq_ac trivial (pq_ac kF_9_7 (pq_ac trivial (pq_ac trivial (pq_ac trivial (pq_ac trivial (pq_ac kF_9_7 (pq_ac trivial (pq_ac trivial (pq_ac trivial (pq_ac trivial (pq_ac trivial (pq_ac trivial (pq_ac trivial (pq_ac trivial (pq_ac trivial (pq_ac trivial (pq_ac kF_9_7 (pq_ac trivial (pq_ac trivial (pq_ac trivial (pq_ac trivial (pq_ac trivial (pq_ac trivial (pq_ac trivial (pq_ac kF_9_7 (pq_ac trivial (pq_ac trivial (pq_ac trivial (pq_ac trivial (pq_ac trivial (pq_ac trivial (pq_ac trivial (pq_ac kF_9_7 (pq_ac trivial (pq_ac trivial (pq_ac trivial (pq_ac trivial (pq_ac kF_9_7 (pq_ac trivial (pq_ac trivial (pq_ac kF_9_7 (pq_ac trivial (pq_ac trivial (pq_ac trivial (pq_ac trivial (pq_ac trivial (pq_ac trivial (pq_ac kF_9_7 (pq_ac trivial (pq_ac trivial (pq_ac trivial (pq_ac trivial (pq_an))))))))))))))))))))))))))))))))))))))))))))))))))))))))))))))))))))))))))))))
set_option maxRecDepth 100000 in
theorem ck_125 : ∀ e ∈ ct_125, pq_ok "PursuitDeskModel" false e := pq_ac trivial (pq_ac kF_9_7 (pq_ac trivial (pq_ac trivial (pq_ac trivial (pq_ac trivial (pq_ac trivial (pq_ac trivial (pq_ac trivial (pq_ac trivial (pq_ac trivial (pq_ac trivial (pq_ac kF_9_7 (pq_ac trivial (pq_ac trivial (pq_ac kF_9_7 (pq_ac trivial (pq_ac trivial (pq_ac trivial (pq_ac trivial (pq_ac trivial (pq_ac trivial (pq_ac trivial (pq_ac trivial (pq_ac kF_9_7 (pq_ac trivial (pq_ac trivial (pq_ac trivial (pq_ac trivial (pq_ac trivial (pq_ac trivial (pq_ac trivial (pq_ac kF_9_7 (pq_ac trivial (pq_ac trivial (pq_ac trivial (pq_ac trivial (pq_ac trivial (pq_ac trivial (pq_ac trivial (pq_an))))))))))))))))))))))))))))))))))))))))
set_option maxRecDepth 100000 in
theorem ck_126 : ∀ e ∈ ct_126, pq_ok "PursuitDeskModel" false e := pq_ac trivial (pq_ac kF_9_53 (pq_ac trivial (pq_ac trivial (pq_ac trivial (pq_ac trivial (pq_ac trivial (pq_ac kF_9_53 (pq_ac trivial (pq_ac trivial (pq_ac kQ_9_53 (pq_ac trivial (pq_ac trivial (pq_ac trivial (pq_ac trivial (pq_ac trivial (pq_ac trivial (pq_ac kF_9_7 (pq_ac trivial (pq_ac trivial (pq_ac kF_9_13 (pq_ac trivial (pq_ac trivial (pq_ac kF_9_53 (pq_ac trivial (pq_ac trivial (pq_ac trivial (pq_ac trivial (pq_ac trivial (pq_ac trivial (pq_ac trivial (pq_ac trivial (pq_ac kF_9_53 (pq_ac trivial (pq_an))))))))))))))))))))))))))))))))))
set_option maxRecDepth 100000 in
theorem ck_127 : ∀ e ∈ ct_127, pq_ok "PursuitDeskModel" false e := pq_ac trivial (pq_ac trivial (pq_ac trivial (pq_ac kF_9_7 (pq_ac trivial (pq_ac trivial (pq_ac trivial (pq_ac trivial (pq_ac kV_9_102 (pq_ac trivial (pq_ac trivial (pq_ac kF_9_7 (pq_ac trivial (pq_ac trivial (pq_ac trivial (pq_ac trivial (pq_ac kF_9_7 (pq_ac trivial (pq_ac trivial (pq_ac trivial (pq_ac trivial (pq_ac kF_9_7 (pq_ac trivial (pq_ac trivial (pq_ac trivial (pq_ac trivial (pq_ac kF_9_7 (pq_ac trivial (pq_ac trivial (pq_ac trivial (pq_ac trivial (pq_ac kF_9_7 (pq_ac trivial (pq_ac trivial (pq_ac trivial (pq_ac trivial (pq_ac kF_9_53 (pq_ac trivial (pq_ac trivial (pq_ac trivial (pq_an))))))))))))))))))))))))))))))))))))))))
set_option maxRecDepth 100000 in
theorem ck_128 : ∀ e ∈ ct_128, pq_ok "PursuitDeskModel" false e := pq_ac trivial (pq_ac trivial (pq_ac trivial (pq_ac trivial (pq_ac trivial (pq_ac trivial (pq_ac trivial (pq_ac trivial (pq_ac trivial (pq_ac trivial (pq_ac trivial (pq_ac trivial (pq_ac trivial (pq_ac trivial (pq_ac trivial (pq_ac trivial (pq_ac kF_9_7 (pq_ac trivial (pq_ac trivial (pq_ac trivial (pq_ac trivial (pq_ac trivial (pq_ac trivial (pq_ac trivial (pq_ac trivial (pq_ac trivial (pq_ac trivial (pq_ac trivial (pq_ac trivial (pq_ac trivial (pq_ac trivial (pq_ac trivial (pq_ac trivial (pq_ac trivial (pq_ac trivial (pq_ac trivial (pq_ac trivial (pq_an)))))))))))))))))))))))))))))))))))))
set_option maxRecDepth 100000 in
theorem ck_129 : ∀ e ∈ ct_129, pq_ok "PursuitDeskModel" false e := pq_ac trivial (pq_ac trivial (pq_ac kV_9_60 (pq_ac trivial (pq_ac trivial (pq_ac kF_9_7 (pq_ac trivial (pq_ac trivial (pq_ac trivial (pq_ac trivial (pq_ac trivial (pq_ac trivial (pq_ac trivial (pq_an)))))))))))))
set_option maxRecDepth 100000 in
theorem ck_130 : ∀ e ∈ ct_130, pq_ok "PursuitDeskModel" false e := pq_ac trivial (pq_ac trivial (pq_ac kV_9_75 (pq_ac trivial (pq_ac trivial (pq_ac trivial (pq_ac trivial (pq_ac kS_9_45 (pq_ac trivial (pq_ac trivial (pq_ac kF_9_7 (pq_ac trivial (pq_ac trivial (pq_ac trivial (pq_ac trivial (pq_ac trivial (pq_ac trivial (pq_ac trivial (pq_ac trivial (pq_ac trivial (pq_ac trivial (pq_ac trivial (pq_an))))))))))))))))))))))
set_option maxRecDepth 100000 in
theorem ck_131 : ∀ e ∈ ct_131, pq_ok "PursuitDeskModel" false e := pq_ac trivial (pq_ac trivial (pq_ac kV_9_60 (pq_ac trivial (pq_ac trivial (pq_ac trivial (pq_ac trivial (pq_ac trivial (pq_ac trivial (pq_ac trivial (pq_ac kF_9_7 (pq_ac trivial (pq_ac trivial (pq_ac trivial (pq_ac trivial (pq_ac kF_9_7 (pq_ac trivial (pq_ac trivial (pq_ac trivial (pq_ac trivial (pq_ac trivial (pq_ac trivial (pq_ac trivial (pq_ac trivial (pq_ac trivial (pq_ac trivial (pq_ac trivial (pq_ac kV_9_57 (pq_ac trivial (pq_ac kF_9_7 (pq_ac trivial (pq_ac trivial (pq_ac trivial (pq_ac trivial (pq_ac kF_9_7 (pq_ac trivial (pq_ac trivial (pq_ac trivial (pq_ac trivial (pq_ac kF_9_7 (pq_ac trivial (pq_ac trivial (pq_ac trivial (pq_ac trivial (pq_ac kF_9_7 (pq_ac trivial (pq_ac trivial (pq_ac trivial (pq_ac trivial (pq_ac kF_9_7 (pq_ac trivial (pq_ac trivial (pq_ac trivial (pq_ac trivial (pq_ac kF_9_7 (pq_ac trivial (pq_ac trivial (pq_ac kF_9_7 (pq_ac trivial (pq_ac trivial (pq_ac trivial (pq_ac trivial (pq_ac kF_9_7 (pq_ac trivial (pq_ac kV_9_72 (pq_ac trivial (pq_ac trivial (pq_ac trivial (pq_ac trivial (pq_ac trivial (pq_ac kF_9_7 (pq_ac trivial (pq_ac kV_9_72 (pq_ac trivial (pq_ac trivial (pq_ac trivial (pq_ac trivial (pq_ac trivial (pq_ac trivial (pq_an)))))))))))))))))))))))))))))))))))))))))))))))))))))))))))))))))))))))))))))))
set_option maxRecDepth 100000 in
theorem ck_132 : ∀ e ∈ ct_132, pq_ok "PursuitDeskModel" false e := pq_ac trivial (pq_ac trivial (pq_ac kV_9_60 (pq_ac trivial (pq_ac trivial (pq_ac trivial (pq_ac trivial (pq_ac kF_9_7 (pq_ac trivial (pq_ac trivial (pq_ac trivial (pq_ac trivial (pq_ac kF_9_7 (pq_ac trivial (pq_ac trivial (pq_ac trivial (pq_ac trivial (pq_ac trivial (pq_ac trivial (pq_ac kF_9_7 (pq_ac trivial (pq_ac trivial (pq_ac trivial (pq_ac kV_9_68 (pq_ac trivial (pq_ac trivial (pq_ac trivial (pq_ac trivial (pq_ac kV_9_57 (pq_ac trivial (pq_ac kF_9_7 (pq_ac trivial (pq_ac trivial (pq_ac trivial (pq_ac trivial (pq_ac kF_9_7 (pq_ac trivial (pq_ac trivial (pq_ac trivial (pq_ac trivial (pq_ac trivial (pq_an)))))))))))))))))))))))))))))))))))))))))
set_option maxRecDepth 100000 in
theorem ck_133 : ∀ e ∈ ct_133, pq_ok "PursuitDeskModel" false e := pq_ac trivial (pq_ac trivial (pq_ac trivial (pq_ac kS_9_45 (pq_ac trivial (pq_ac trivial (pq_ac trivial (pq_ac trivial (pq_ac kS_9_45 (pq_ac trivial (pq_ac trivial (pq_ac trivial (pq_ac trivial (pq_ac kV_9_57 (pq_ac trivial (pq_ac trivial (pq_ac kF_9_7 (pq_ac trivial (pq_ac trivial (pq_ac trivial (pq_ac trivial (pq_ac kF_9_7 (pq_ac trivial (pq_ac trivial (pq_ac trivial (pq_ac trivial (pq_ac trivial (pq_ac kF_9_7 (pq_ac trivial (pq_ac trivial (pq_ac trivial (pq_ac trivial (pq_ac kF_9_7 (pq_ac trivial (pq_ac trivial (pq_ac trivial (pq_ac trivial (pq_ac trivial (pq_an))))))))))))))))))))))))))))))))))))))
set_option maxRecDepth 100000 in
theorem ck_134 : ∀ e ∈ ct_134, pq_ok "PursuitDeskModel" false e := pq_ac trivial (pq_ac trivial (pq_ac trivial (pq_ac kS_9_45 (pq_ac trivial (pq_ac trivial (pq_ac trivial (pq_ac trivial (pq_ac kF_9_7 (pq_ac trivial (pq_ac trivial (pq_ac trivial (pq_ac trivial (pq_ac trivial (pq_ac trivial (pq_ac kF_9_7 (pq_ac trivial (pq_ac trivial (pq_ac trivial (pq_ac trivial (pq_ac trivial (pq_an)))))))))))))))))))))
set_option maxRecDepth 100000 in
theorem ck_135 : ∀ e ∈ ct_135, pq_ok "PursuitDeskModel" false e := pq_ac trivial (pq_ac kV_9_93 (pq_ac trivial (pq_ac trivial (pq_ac kV_9_90 (pq_ac trivial (pq_ac kF_9_7 (pq_ac trivial (pq_ac trivial (pq_ac kV_9_82 (pq_ac trivial (pq_an)))))))))))
set_option maxRecDepth 100000 in
theorem ck_136 : ∀ e ∈ ct_136, pq_ok "PursuitDeskModel" false e := pq_ac trivial (pq_ac kV_9_93 (pq_ac trivial (pq_ac trivial (pq_ac trivial (pq_ac trivial (pq_ac trivial (pq_ac trivial (pq_ac kF_9_23 (pq_ac trivial (pq_ac trivial (pq_ac kF_9_20 (pq_ac trivial (pq_ac trivial (pq_ac trivial (pq_ac trivial (pq_ac trivial (pq_ac trivial (pq_ac kV_9_90 (pq_ac trivial (pq_ac trivial (pq_ac trivial (pq_ac trivial (pq_ac trivial (pq_ac trivial (pq_ac kF_9_7 (pq_ac trivial (pq_ac trivial (pq_ac kV_9_82 (pq_ac trivial (pq_ac trivial (pq_ac trivial (pq_ac trivial (pq_ac trivial (pq_ac trivial (pq_ac trivial (pq_ac trivial (pq_ac trivial (pq_ac kF_9_7 (pq_ac trivial (pq_ac trivial (pq_ac kV_9_82 (pq_ac trivial (pq_ac trivial (pq_ac trivial (pq_ac trivial (pq_ac trivial (pq_an)))))))))))))))))))))))))))))))))))))))))))))))
set_option maxRecDepth 100000 in
theorem ck_137 : ∀ e ∈ ct_137, pq_ok "PursuitDeskModel" false e := pq_ac trivial (pq_ac kV_9_124 (pq_ac trivial (pq_ac trivial (pq_ac trivial (pq_ac trivial (pq_ac trivial (pq_ac trivial (pq_ac kF_9_30 (pq_ac trivial (pq_ac trivial (pq_ac trivial (pq_an))))))))))))
set_option maxRecDepth 100000 in
theorem ck_138 : ∀ e ∈ ct_138, pq_ok "PursuitDeskModel" false e := pq_ac trivial (pq_ac kV_9_115 (pq_ac trivial (pq_ac kF_9_36 (pq_ac trivial (pq_ac trivial (pq_ac kV_9_118 (pq_ac trivial (pq_ac trivial (pq_ac kF_9_30 (pq_ac trivial (pq_ac kF_9_36 (pq_ac trivial (pq_ac trivial (pq_ac trivial (pq_ac trivial (pq_ac trivial (pq_ac trivial (pq_ac trivial (pq_ac kF_9_7 (pq_ac trivial (pq_ac trivial (pq_ac kV_9_121 (pq_ac trivial (pq_an))))))))))))))))))))))))
set_option maxRecDepth 100000 in
theorem ck_139 : ∀ e ∈ ct_139, pq_ok "PursuitDeskModel" false e := pq_ac trivial (pq_ac kV_9_93 (pq_ac trivial (pq_ac trivial (pq_ac trivial (pq_ac kC_9_29 (pq_ac trivial (pq_ac trivial (pq_ac kF_9_30 (pq_ac trivial (pq_ac trivial (pq_ac trivial (pq_ac trivial (pq_ac trivial (pq_ac trivial (pq_an)))))))))))))))
set_option maxRecDepth 100000 in
theorem ck_140 : ∀ e ∈ ct_140, pq_ok "PursuitDeskModel" false e := pq_ac trivial (pq_ac kV_9_90 (pq_ac trivial (pq_ac trivial (pq_ac trivial (pq_ac trivial (pq_ac trivial (pq_ac kF_9_7 (pq_ac trivial (pq_ac trivial (pq_ac trivial (pq_ac trivial (pq_ac trivial (pq_ac trivial (pq_ac kF_9_7 (pq_ac trivial (pq_ac trivial (pq_ac trivial (pq_ac trivial (pq_ac kS_9_105 (pq_ac trivial (pq_ac trivial (pq_ac trivial (pq_ac trivial (pq_ac trivial (pq_an)))))))))))))))))))))))))
set_option maxRecDepth 100000 in
theorem ck_141 : ∀ e ∈ ct_141, pq_ok "PursuitDeskModel" false e := pq_ac trivial (pq_ac trivial (pq_ac trivial (pq_ac trivial (pq_ac trivial (pq_ac trivial (pq_ac trivial (pq_ac trivial (pq_ac trivial (pq_ac trivial (pq_ac trivial (pq_ac trivial (pq_ac trivial (pq_ac trivial (pq_ac trivial (pq_ac trivial (pq_ac trivial (pq_ac trivial (pq_ac trivial (pq_ac trivial (pq_an))))))))))))))))))))
set_option maxRecDepth 100000 in
theorem ck_142 : ∀ e ∈ ct_142, pq_ok "PursuitDeskModel" false e := pq_ac trivial (pq_ac trivial (pq_ac trivial (pq_ac trivial (pq_ac trivial (pq_ac trivial (pq_ac trivial (pq_ac trivial (pq_ac kF_9_36 (pq_ac trivial (pq_ac trivial (pq_ac trivial (pq_ac trivial (pq_ac trivial (pq_ac trivial (pq_ac kF_9_36 (pq_ac trivial (pq_ac trivial (pq_ac trivial (pq_ac trivial (pq_ac trivial (pq_ac trivial (pq_ac trivial (pq_ac kS_9_109 (pq_ac trivial (pq_ac trivial (pq_ac trivial (pq_ac kF_9_36 (pq_ac trivial (pq_ac trivial (pq_ac trivial (pq_ac trivial (pq_ac kV_9_112 (pq_ac trivial (pq_ac trivial (pq_ac trivial (pq_ac trivial (pq_ac kF_9_30 (pq_ac trivial (pq_ac trivial (pq_ac trivial (pq_ac trivial (pq_ac kF_9_30 (pq_ac trivial (pq_ac trivial (pq_ac kF_9_30 (pq_ac trivial (pq_ac kF_9_36 (pq_ac trivial (pq_ac trivial (pq_ac trivial (pq_ac trivial (pq_ac trivial (pq_ac trivial (pq_ac trivial (pq_ac kF_9_33 (pq_ac trivial (pq_ac trivial (pq_ac kF_9_36 (pq_ac trivial (pq_ac trivial (pq_ac trivial (pq_ac trivial (pq_ac kF_9_36 (pq_ac trivial (pq_ac trivial (pq_ac trivial (pq_ac trivial (pq_ac trivial (pq_ac trivial (pq_ac trivial (pq_ac trivial (pq_ac trivial (pq_ac trivial (pq_an))))))))))))))))))))))))))))))))))))))))))))))))))))))))))))))))))))))))))
set_option maxRecDepth 100000 in
theorem ck_143 : ∀ e ∈ ct_143, pq_ok "PursuitDeskModel" false e := pq_ac trivial (pq_ac trivial (pq_ac trivial (pq_ac trivial (pq_ac trivial (pq_ac trivial (pq_ac trivial (pq_ac trivial (pq_ac trivial (pq_ac trivial (pq_ac trivial (pq_ac trivial (pq_ac trivial (pq_ac trivial (pq_ac trivial (pq_ac trivial (pq_an))))))))))))))))
set_option maxRecDepth 100000 in
theorem ck_144 : ∀ e ∈ ct_144, pq_ok "PursuitDeskModel" false e := pq_ac trivial (pq_ac trivial (pq_ac trivial (pq_ac trivial (pq_ac trivial (pq_ac trivial (pq_ac trivial (pq_ac trivial (pq_ac trivial (pq_ac trivial (pq_ac trivial (pq_ac kF_9_20 (pq_ac trivial (pq_ac trivial (pq_ac trivial (pq_ac trivial (pq_ac trivial (pq_ac trivial (pq_ac trivial (pq_ac trivial (pq_ac trivial (pq_ac trivial (pq_ac trivial (pq_ac trivial (pq_ac kF_9_23 (pq_ac trivial (pq_ac trivial (pq_ac trivial (pq_ac trivial (pq_ac trivial (pq_ac trivial (pq_ac trivial (pq_ac trivial (pq_ac trivial (pq_ac trivial (pq_ac kF_9_23 (pq_ac trivial (pq_ac trivial (pq_ac trivial (pq_ac kF_9_7 (pq_ac trivial (pq_ac trivial (pq_ac trivial (pq_ac trivial (pq_ac trivial (pq_ac kF_9_20 (pq_ac trivial (pq_ac trivial (pq_ac trivial (pq_ac kF_9_23 (pq_ac trivial (pq_ac trivial (pq_ac kV_9_68 (pq_ac trivial (pq_ac trivial (pq_ac trivial (pq_ac trivial (pq_ac trivial (pq_ac trivial (pq_ac kF_9_23 (pq_ac trivial (pq_ac trivial (pq_ac kS_9_105 (pq_ac trivial (pq_ac trivial (pq_ac trivial (pq_ac trivial (pq_ac trivial (pq_ac trivial (pq_ac trivial (pq_ac trivial (pq_ac trivial (pq_ac kV_9_82 (pq_ac trivial (pq_ac trivial (pq_an)))))))))))))))))))))))))))))))))))))))))))))))))))))))))))))))))))))))))))
set_option maxRecDepth 100000 in
theorem ck_145 : ∀ e ∈ ct_145, pq_ok "PursuitDeskModel" false e := pq_ac trivial (pq_ac trivial (pq_ac trivial (pq_ac trivial (pq_ac kV_9_75 (pq_ac trivial (pq_ac trivial (pq_ac trivial (pq_ac trivial (pq_ac kV_9_124 (pq_ac trivial (pq_ac trivial (pq_ac trivial (pq_ac trivial (pq_ac trivial (pq_ac kF_9_30 (pq_ac trivial (pq_ac trivial (pq_ac trivial (pq_ac trivial (pq_ac trivial (pq_ac trivial (pq_ac kF_9_30 (pq_ac trivial (pq_ac trivial (pq_ac trivial (pq_ac trivial (pq_ac trivial (pq_ac trivial (pq_ac trivial (pq_ac kF_9_33 (pq_ac trivial (pq_ac trivial (pq_ac trivial (pq_ac trivial (pq_ac trivial (pq_ac trivial (pq_ac trivial (pq_ac trivial (pq_ac trivial (pq_ac trivial (pq_ac trivial (pq_ac trivial (pq_ac trivial (pq_ac trivial (pq_an)))))))))))))))))))))))))))))))))))))))))))))
set_option maxRecDepth 100000 in
theorem ck_146 : ∀ e ∈ ct_146, pq_ok "PursuitDeskModel" false e := pq_ac trivial (pq_ac kV_9_115 (pq_ac trivial (pq_ac kF_9_30 (pq_ac trivial (pq_ac kV_9_118 (pq_ac trivial (pq_ac trivial (pq_ac trivial (pq_ac trivial (pq_ac trivial (pq_ac trivial (pq_ac trivial (pq_ac kC_9_29 (pq_ac trivial (pq_ac trivial (pq_ac kF_9_33 (pq_ac trivial (pq_ac trivial (pq_ac trivial (pq_ac trivial (pq_ac trivial (pq_ac trivial (pq_ac trivial (pq_ac trivial (pq_ac trivial (pq_ac trivial (pq_ac trivial (pq_ac trivial (pq_ac trivial (pq_ac trivial (pq_ac trivial (pq_ac trivial (pq_ac kC_9_29 (pq_ac trivial (pq_ac trivial (pq_ac trivial (pq_ac trivial (pq_ac kF_9_30 (pq_ac trivial (pq_ac trivial (pq_ac trivial (pq_ac trivial (pq_ac trivial (pq_ac trivial (pq_ac trivial (pq_ac trivial (pq_ac trivial (pq_ac kF_9_30 (pq_ac trivial (pq_ac trivial (pq_ac trivial (pq_ac trivial (pq_ac trivial (pq_ac kF_9_33 (pq_ac trivial (pq_ac trivial (pq_ac trivial (pq_ac trivial (pq_ac kF_9_33 (pq_ac trivial (pq_ac trivial (pq_ac trivial (pq_ac trivial (pq_ac kF_9_36 (pq_ac trivial (pq_ac trivial (pq_ac trivial (pq_ac trivial (pq_ac trivial (pq_ac trivial (pq_ac trivial (pq_ac trivial (pq_ac trivial (pq_ac trivial (pq_ac trivial (pq_ac trivial (pq_ac kF_9_36 (pq_ac trivial (pq_ac trivial (pq_ac trivial (pq_ac trivial (pq_ac trivial (pq_ac trivial (pq_ac trivial (pq_ac trivial (pq_ac trivial (pq_ac trivial (pq_ac trivial (pq_ac kF_9_7 (pq_ac trivial (pq_ac trivial (pq_ac kS_9_109 (pq_ac trivial (pq_ac trivial (pq_ac trivial (pq_ac kF_9_36 (pq_ac trivial (pq_ac trivial (pq_ac trivial (pq_ac trivial (pq_ac kF_9_7 (pq_ac trivial (pq_ac trivial (pq_ac kV_9_112 (pq_ac trivial (pq_ac trivial (pq_ac trivial (pq_ac trivial (pq_ac trivial (pq_ac trivial (pq_ac trivial (pq_ac kF_9_36 (pq_ac trivial (pq_ac trivial (pq_ac trivial (pq_ac trivial (pq_ac kF_9_7 (pq_ac trivial (pq_ac trivial (pq_ac kS_9_127 (pq_ac trivial (pq_ac trivial (pq_ac trivial (pq_ac trivial (pq_ac trivial (pq_ac kF_9_30 (pq_ac trivial (pq_ac trivial (pq_ac trivial (pq_ac trivial (pq_ac trivial (pq_ac kF_9_30 (pq_ac trivial (pq_ac trivial (pq_ac trivial (pq_ac trivial (pq_ac kF_9_30 (pq_ac trivial (pq_ac trivial (pq_ac trivial (pq_ac trivial (pq_ac trivial (pq_ac trivial (pq_ac trivial (pq_ac trivial (pq_ac trivial (pq_ac kF_9_33 (pq_ac trivial (pq_ac trivial (pq_ac trivial (pq_ac trivial (pq_ac kF_9_36 (pq_ac trivial (pq_ac trivial (pq_ac trivial (pq_ac trivial (pq_ac trivial (pq_ac trivial (pq_ac trivial (pq_ac trivial (pq_ac trivial (pq_ac trivial (pq_ac trivial (pq_ac trivial (pq_an)))))))))))))))))))))))))))))))))))))))))))))))))))))))))))))))))))))))))))))))))))))))))))))))))))))))))))))))))))))))))))))))))))))))))))))))))))))))))))))))))))))
set_option maxRecDepth 100000 in
theorem ck_147 : ∀ e ∈ ct_147, pq_ok "PursuitDeskModel" false e := pq_ac trivial (pq_ac trivial (pq_ac trivial (pq_ac trivial (pq_ac trivial (pq_ac trivial (pq_ac trivial (pq_ac trivial (pq_ac trivial (pq_ac trivial (pq_ac trivial (pq_ac trivial (pq_ac trivial (pq_ac trivial (pq_ac trivial (pq_ac trivial (pq_ac trivial (pq_ac trivial (pq_ac trivial (pq_ac trivial (pq_ac trivial (pq_ac trivial (pq_ac trivial (pq_ac trivial (pq_ac trivial (pq_ac trivial (pq_ac trivial (pq_ac trivial (pq_ac trivial (pq_ac trivial (pq_ac trivial (pq_ac trivial (pq_ac trivial (pq_ac trivial (pq_ac trivial (pq_ac trivial (pq_an))))))))))))))))))))))))))))))))))))
set_option maxRecDepth 100000 in
theorem ck_148 : ∀ e ∈ ct_148, pq_ok "PursuitDeskModel" false e := pq_ac trivial (pq_ac trivial (pq_ac trivial (pq_ac trivial (pq_ac trivial (pq_ac trivial (pq_ac trivial (pq_ac kV_9_130 (pq_ac trivial (pq_ac trivial (pq_ac trivial (pq_ac trivial (pq_ac trivial (pq_ac trivial (pq_ac trivial (pq_an)))))))))))))))
set_option maxRecDepth 100000 in
theorem ck_149 : ∀ e ∈ ct_149, pq_ok "PursuitDeskModel" false e := pq_ac trivial (pq_ac kV_9_115 (pq_ac trivial (pq_ac trivial (pq_ac trivial (pq_ac trivial (pq_ac trivial (pq_ac trivial (pq_ac kS_9_109 (pq_ac trivial (pq_ac trivial (pq_ac kV_9_49 (pq_ac trivial (pq_ac trivial (pq_ac trivial (pq_ac trivial (pq_ac trivial (pq_ac trivial (pq_ac trivial (pq_ac trivial (pq_ac trivial (pq_ac trivial (pq_ac trivial (pq_ac trivial (pq_ac trivial (pq_ac trivial (pq_ac trivial (pq_ac trivial (pq_ac trivial (pq_ac trivial (pq_ac trivial (pq_ac trivial (pq_ac trivial (pq_ac trivial (pq_ac kF_9_7 (pq_ac trivial (pq_ac trivial (pq_ac trivial (pq_ac trivial (pq_ac trivial (pq_ac trivial (pq_ac trivial (pq_ac trivial (pq_ac trivial (pq_ac trivial (pq_ac trivial (pq_ac trivial (pq_ac trivial (pq_ac trivial (pq_ac trivial (pq_ac trivial (pq_ac kS_9_105 (pq_ac trivial (pq_ac trivial (pq_ac trivial (pq_ac trivial (pq_ac trivial (pq_ac trivial (pq_ac kF_9_30 (pq_ac trivial (pq_ac trivial (pq_ac trivial (pq_ac trivial (pq_ac kF_9_30 (pq_ac trivial (pq_ac trivial (pq_ac trivial (pq_ac trivial (pq_ac kF_9_36 (pq_ac trivial (pq_ac trivial (pq_ac trivial (pq_ac trivial (pq_ac trivial (pq_ac trivial (pq_ac trivial (pq_ac trivial (pq_ac trivial (pq_ac kV_9_121 (pq_ac trivial (pq_ac trivial (pq_ac trivial (pq_ac trivial (pq_ac trivial (pq_ac trivial (pq_ac kF_9_30 (pq_ac trivial (pq_ac trivial (pq_ac trivial (pq_an)))))))))))))))))))))))))))))))))))))))))))))))))))))))))))))))))))))))))))))))))))))))))
set_option maxRecDepth 100000 in
theorem ck_150 : ∀ e ∈ ct_150, pq_ok "PursuitDeskModel" false e := pq_ac trivial (pq_ac trivial (pq_ac trivial (pq_ac kS_9_45 (pq_ac trivial (pq_ac trivial (pq_ac trivial (pq_ac trivial (pq_ac trivial (pq_ac kV_9_130 (pq_ac trivial (pq_ac trivial (pq_ac trivial (pq_ac trivial (pq_ac trivial (pq_ac trivial (pq_ac trivial (pq_an)))))))))))))))))
set_option maxRecDepth 100000 in
theorem ck_151 : ∀ e ∈ ct_151, pq_ok "PursuitDeskModel" false e := pq_ac trivial (pq_ac trivial (pq_ac trivial (pq_ac kS_9_45 (pq_ac trivial (pq_ac trivial (pq_ac trivial (pq_ac trivial (pq_ac kF_9_133 (pq_ac trivial (pq_ac trivial (pq_ac trivial (pq_ac trivial (pq_ac trivial (pq_ac kF_9_16 (pq_ac trivial (pq_ac kF_9_133 (pq_ac trivial (pq_ac trivial (pq_ac trivial (pq_ac trivial (pq_ac trivial (pq_ac kF_9_133 (pq_ac trivial (pq_ac trivial (pq_ac kQ_9_133 (pq_ac trivial (pq_ac kF_9_133 (pq_ac trivial (pq_an)))))))))))))))))))))))))))))
set_option maxRecDepth 100000 in
theorem ck_152 : ∀ e ∈ ct_152, pq_ok "PursuitDeskModel" false e := pq_ac trivial (pq_ac kF_9_133 (pq_ac trivial (pq_ac trivial (pq_ac trivial (pq_ac kQ_9_133 (pq_ac trivial (pq_ac trivial (pq_an))))))))
set_option maxRecDepth 100000 in
theorem ck_153 : ∀ e ∈ ct_153, pq_ok "PursuitDeskModel" false e := pq_ac trivial (pq_ac trivial (pq_ac trivial (pq_ac trivial (pq_ac trivial (pq_ac trivial (pq_ac kF_9_39 (pq_ac trivial (pq_ac trivial (pq_ac trivial (pq_ac trivial (pq_ac trivial (pq_ac trivial (pq_ac trivial (pq_ac trivial (pq_ac trivial (pq_ac kF_9_133 (pq_ac trivial (pq_ac trivial (pq_ac trivial (pq_ac kV_9_136 (pq_ac trivial (pq_ac trivial (pq_ac trivial (pq_ac trivial (pq_ac trivial (pq_ac trivial (pq_ac trivial (pq_ac kV_9_136 (pq_ac trivial (pq_ac trivial (pq_ac trivial (pq_ac trivial (pq_ac trivial (pq_ac kV_9_60 (pq_ac trivial (pq_ac trivial (pq_ac trivial (pq_ac trivial (pq_ac trivial (pq_ac kV_9_136 (pq_ac trivial (pq_ac trivial (pq_ac trivial (pq_ac trivial (pq_ac kV_9_60 (pq_ac trivial (pq_ac trivial (pq_ac trivial (pq_ac trivial (pq_ac trivial (pq_ac trivial (pq_ac trivial (pq_ac trivial (pq_ac kV_9_136 (pq_ac trivial (pq_ac trivial (pq_ac trivial (pq_ac trivial (pq_ac trivial (pq_ac trivial (pq_ac trivial (pq_ac trivial (pq_ac trivial (pq_ac kF_9_39 (pq_ac trivial (pq_ac trivial (pq_ac trivial (pq_ac trivial (pq_ac trivial (pq_ac trivial (pq_ac trivial (pq_ac trivial (pq_ac trivial (pq_ac trivial (pq_ac trivial (pq_ac kF_9_39 (pq_ac trivial (pq_ac trivial (pq_ac trivial (pq_ac trivial (pq_ac trivial (pq_ac trivial (pq_ac trivial (pq_ac trivial (pq_ac trivial (pq_ac kF_9_39 (pq_ac trivial (pq_ac trivial (pq_ac trivial (pq_ac trivial (pq_ac trivial (pq_ac trivial (pq_ac trivial (pq_ac trivial (pq_ac trivial (pq_ac trivial (pq_ac trivial (pq_ac trivial (pq_an)))))))))))))))))))))))))))))))))))))))))))))))))))))))))))))))))))))))))))))))))))))))))))))))))))
set_option maxRecDepth 100000 in
theorem ck_154 : ∀ e ∈ ct_154, pq_ok "PursuitDeskModel" false e := pq_ac trivial (pq_ac trivial (pq_ac kF_9_133 (pq_ac trivial (pq_ac trivial (pq_ac kF_9_16 (pq_ac trivial (pq_ac trivial (pq_ac trivial (pq_ac trivial (pq_ac trivial (pq_an)))))))))))
set_option maxRecDepth 100000 in
theorem ck_155 : ∀ e ∈ ct_155, pq_ok "PursuitDeskModel" false e := pq_ac trivial (pq_ac kV_9_139 (pq_ac trivial (pq_ac trivial (pq_ac trivial (pq_ac trivial (pq_ac trivial (pq_ac kV_9_57 (pq_ac trivial (pq_ac trivial (pq_ac trivial (pq_ac trivial (pq_ac trivial (pq_ac trivial (pq_ac kF_9_7 (pq_ac trivial (pq_ac trivial (pq_ac trivial (pq_ac trivial (pq_ac kF_9_39 (pq_ac trivial (pq_ac trivial (pq_ac trivial (pq_ac trivial (pq_ac trivial (pq_ac trivial (pq_ac trivial (pq_ac trivial (pq_ac trivial (pq_ac kF_9_7 (pq_ac trivial (pq_ac trivial (pq_ac trivial (pq_ac trivial (pq_ac kF_9_7 (pq_ac trivial (pq_ac trivial (pq_ac trivial (pq_ac trivial (pq_ac kF_9_7 (pq_ac trivial (pq_ac trivial (pq_ac trivial (pq_ac trivial (pq_ac trivial (pq_ac trivial (pq_ac trivial (pq_ac trivial (pq_ac kF_9_7 (pq_ac trivial (pq_ac trivial (pq_ac kF_9_7 (pq_ac trivial (pq_ac trivial (pq_ac trivial (pq_ac trivial (pq_ac kV_9_42 (pq_ac trivial (pq_ac kV_9_102 (pq_ac trivial (pq_an))))))))))))))))))))))))))))))))))))))))))))))))))))))))))))
set_option maxRecDepth 100000 in
theorem ck_156 : ∀ e ∈ ct_156, pq_ok "PursuitDeskLaw" false e := pq_ac kN_10_7 (pq_ac trivial (pq_ac kI_10_9 (pq_ac trivial (pq_ac kN_10_10 (pq_ac trivial (pq_ac kI_10_12 (pq_ac trivial (pq_ac trivial (pq_ac trivial (pq_ac trivial (pq_ac trivial (pq_ac trivial (pq_ac trivial (pq_ac trivial (pq_ac trivial (pq_ac trivial (pq_ac trivial (pq_ac trivial (pq_ac trivial (pq_ac trivial (pq_ac trivial (pq_ac trivial (pq_ac trivial (pq_ac trivial (pq_ac trivial (pq_ac trivial (pq_ac trivial (pq_ac kV_10_13 (pq_ac trivial (pq_ac trivial (pq_ac trivial (pq_ac trivial (pq_ac trivial (pq_ac trivial (pq_ac kV_10_17 (pq_ac trivial (pq_ac trivial (pq_ac trivial (pq_ac trivial (pq_ac trivial (pq_ac trivial (pq_ac trivial (pq_ac trivial (pq_ac trivial (pq_ac trivial (pq_ac trivial (pq_ac trivial (pq_ac trivial (pq_ac trivial (pq_ac trivial (pq_ac trivial (pq_ac trivial (pq_ac trivial (pq_ac trivial (pq_ac kV_10_18 (pq_ac trivial (pq_ac trivial (pq_ac trivial (pq_ac trivial (pq_ac trivial (pq_ac trivial (pq_ac trivial (pq_ac trivial (pq_ac trivial (pq_ac trivial (pq_ac trivial (pq_ac trivial (pq_ac trivial (pq_ac trivial (pq_ac trivial (pq_ac trivial (pq_ac kV_10_22 (pq_ac trivial (pq_ac trivial (pq_ac trivial (pq_ac trivial (pq_ac kV_10_23 (pq_ac trivial (pq_ac kV_10_27 (pq_ac trivial (pq_ac trivial (pq_ac trivial (pq_ac trivial (pq_ac trivial (pq_ac trivial (pq_ac trivial (pq_ac trivial (pq_ac trivial (pq_ac kV_10_28 (pq_ac trivial (pq_ac trivial (pq_ac trivial (pq_ac trivial (pq_ac trivial (pq_ac trivial (pq_ac kV_10_31 (pq_ac trivial (pq_ac trivial (pq_ac trivial (pq_ac trivial (pq_ac kV_10_32 (pq_ac trivial (pq_ac kV_10_35 (pq_ac trivial (pq_ac trivial (pq_ac trivial (pq_ac trivial (pq_ac trivial (pq_ac trivial (pq_ac trivial (pq_ac trivial (pq_ac trivial (pq_ac trivial (pq_ac trivial (pq_ac trivial (pq_ac trivial (pq_ac trivial (pq_ac kV_10_36 (pq_ac trivial (pq_ac trivial (pq_ac trivial (pq_ac trivial (pq_ac trivial (pq_ac trivial (pq_ac trivial (pq_ac trivial (pq_ac trivial (pq_ac trivial (pq_ac trivial (pq_ac kV_10_40 (pq_ac trivial (pq_ac trivial (pq_ac trivial (pq_ac trivial (pq_ac kV_10_41 (pq_ac trivial (pq_ac kV_10_44 (pq_ac trivial (pq_ac trivial (pq_ac trivial (pq_ac trivial (pq_ac kV_10_45 (pq_ac trivial (pq_ac kV_10_48 (pq_ac trivial (pq_ac trivial (pq_ac trivial (pq_ac trivial (pq_ac trivial (pq_ac trivial (pq_ac trivial (pq_ac trivial (pq_ac trivial (pq_ac kV_10_49 (pq_ac trivial (pq_ac trivial (pq_ac trivial (pq_ac trivial (pq_ac trivial (pq_ac trivial (pq_ac kV_10_52 (pq_ac trivial (pq_ac trivial (pq_ac trivial (pq_ac trivial (pq_ac trivial (pq_ac trivial (pq_ac trivial (pq_ac trivial (pq_ac trivial (pq_ac trivial (pq_ac trivial (pq_ac trivial (pq_ac trivial (pq_ac trivial (pq_ac kV_10_53 (pq_ac trivial (pq_ac trivial (pq_ac trivial (pq_ac trivial (pq_ac trivial (pq_ac trivial (pq_ac trivial (pq_ac trivial (pq_ac trivial (pq_ac trivial (pq_ac trivial (pq_ac kV_10_56 (pq_ac trivial (pq_ac trivial (pq_ac trivial (pq_ac trivial (pq_ac kV_10_57 (pq_ac trivial (pq_ac kV_10_60 (pq_ac trivial (pq_ac trivial (pq_ac trivial (pq_ac trivial (pq_ac kV_10_61 (pq_ac trivial (pq_ac kV_10_64 (pq_ac trivial (pq_ac trivial (pq_ac trivial (pq_ac trivial (pq_ac trivial (pq_ac trivial (pq_ac trivial (pq_ac trivial (pq_ac trivial (pq_ac kV_10_65 (pq_ac trivial (pq_ac trivial (pq_ac trivial (pq_ac trivial (pq_ac trivial (pq_ac trivial (pq_ac kV_10_68 (pq_ac trivial (pq_ac trivial (pq_ac trivial (pq_ac trivial (pq_ac trivial (pq_ac trivial (pq_ac trivial (pq_ac trivial (pq_ac trivial (pq_ac kV_10_69 (pq_ac trivial (pq_ac trivial (pq_ac trivial (pq_ac trivial (pq_ac trivial (pq_ac trivial (pq_ac kV_10_72 (pq_ac trivial (pq_ac trivial (pq_ac trivial (pq_ac trivial (pq_ac trivial (pq_ac trivial (pq_ac trivial (pq_ac trivial (pq_ac trivial (pq_ac trivial (pq_ac trivial (pq_ac trivial (pq_ac trivial (pq_ac trivial (pq_ac kV_10_73 (pq_ac trivial (pq_ac trivial (pq_ac trivial (pq_ac trivial (pq_ac trivial (pq_ac trivial (pq_ac trivial (pq_ac trivial (pq_ac trivial (pq_ac trivial (pq_ac trivial (pq_ac kV_10_76 (pq_ac trivial (pq_ac trivial (pq_ac trivial (pq_ac trivial (pq_ac trivial (pq_ac trivial (pq_ac trivial (pq_ac trivial (pq_ac trivial (pq_ac kV_10_77 (pq_ac trivial (pq_ac trivial (pq_ac trivial (pq_ac trivial (pq_ac trivial (pq_ac trivial (pq_ac kV_10_80 (pq_ac trivial (pq_ac trivial (pq_ac trivial (pq_ac trivial (pq_ac trivial (pq_ac trivial (pq_ac trivial (pq_ac trivial (pq_ac trivial (pq_ac kV_10_81 (pq_ac trivial (pq_ac trivial (pq_ac trivial (pq_ac trivial (pq_ac trivial (pq_ac trivial (pq_ac kV_10_84 (pq_ac trivial (pq_ac trivial (pq_ac trivial (pq_ac trivial (pq_ac trivial (pq_ac trivial (pq_ac trivial (pq_ac trivial (pq_ac trivial (pq_ac trivial (pq_ac trivial (pq_ac trivial (pq_ac trivial (pq_ac trivial (pq_ac kV_10_85 (pq_ac trivial (pq_ac trivial (pq_ac trivial (pq_ac trivial (pq_ac trivial (pq_ac trivial (pq_ac trivial (pq_ac trivial (pq_ac trivial (pq_ac trivial (pq_ac trivial (pq_ac kV_10_88 (pq_ac trivial (pq_ac trivial (pq_ac trivial (pq_ac trivial (pq_ac trivial (pq_ac trivial (pq_ac trivial (pq_ac trivial (pq_ac trivial (pq_ac kV_10_89 (pq_ac trivial (pq_ac trivial (pq_ac trivial (pq_ac trivial (pq_ac trivial (pq_ac trivial (pq_ac kV_10_92 (pq_ac trivial (pq_ac trivial (pq_ac trivial (pq_ac trivial (pq_ac kV_10_93 (pq_ac trivial (pq_ac kV_10_96 (pq_ac trivial (pq_ac trivial (pq_ac trivial (pq_ac trivial (pq_ac kV_10_97 (pq_ac trivial (pq_ac kV_10_100 (pq_ac trivial (pq_ac trivial (pq_ac trivial (pq_ac trivial (pq_ac trivial (pq_ac trivial (pq_ac trivial (pq_ac trivial (pq_ac trivial (pq_ac trivial (pq_ac trivial (pq_ac trivial (pq_ac trivial (pq_ac trivial (pq_ac kV_10_101 (pq_ac trivial (pq_ac trivial (pq_ac trivial (pq_ac trivial (pq_ac trivial (pq_ac trivial (pq_ac trivial (pq_ac trivial (pq_ac trivial (pq_ac trivial (pq_ac trivial (pq_ac kV_10_104 (pq_ac trivial (pq_ac trivial (pq_ac trivial (pq_ac trivial (pq_ac kV_10_105 (pq_ac trivial (pq_ac kV_10_108 (pq_ac trivial (pq_ac trivial (pq_ac trivial (pq_ac trivial (pq_ac kV_10_109 (pq_ac trivial (pq_ac kV_10_112 (pq_ac trivial (pq_ac trivial (pq_ac trivial (pq_ac trivial (pq_ac kV_10_113 (pq_ac trivial (pq_ac kV_10_116 (pq_ac trivial (pq_ac trivial (pq_ac trivial (pq_ac trivial (pq_ac trivial (pq_ac trivial (pq_ac trivial (pq_ac trivial (pq_ac trivial (pq_ac kV_10_117 (pq_ac trivial (pq_ac trivial (pq_ac trivial (pq_ac trivial (pq_ac trivial (pq_ac trivial (pq_ac kV_10_120 (pq_ac trivial (pq_ac trivial (pq_ac trivial (pq_ac trivial (pq_ac trivial (pq_ac trivial (pq_ac trivial (pq_ac trivial (pq_ac trivial (pq_ac kV_10_121 (pq_ac trivial (pq_ac trivial (pq_ac trivial (pq_ac trivial (pq_ac trivial (pq_ac trivial (pq_ac kV_10_124 (pq_ac trivial (pq_ac trivial (pq_ac trivial (pq_ac trivial (pq_ac kV_10_125 (pq_ac trivial (pq_ac kV_10_128 (pq_ac trivial (pq_ac trivial (pq_ac trivial (pq_ac trivial (pq_ac kV_10_129 (pq_ac trivial (pq_ac kV_10_132 (pq_ac trivial (pq_ac trivial (pq_ac trivial (pq_ac trivial (pq_ac trivial (pq_ac trivial (pq_ac trivial (pq_an)))))))))))))))))))))))))))))))))))))))))))))))))))))))))))))))))))))))))))))))))))))))))))))))))))))))))))))))))))))))))))))))))))))))))))))))))))))))))))))))))))))))))))))))))))))))))))))))))))))))))))))))))))))))))))))))))))))))))))))))))))))))))))))))))))))))))))))))))))))))))))))))))))))))))))))))))))))))))))))))))))))))))))))))))))))))))))))))))))))))))))))))))))))))))))))))))))))))))))))))))))))))))))))))))))))))))))))))))))))))))))))))))))))))))))
