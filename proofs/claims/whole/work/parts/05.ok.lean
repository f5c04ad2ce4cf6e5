/-! the program is what the bytes and the tables say -/
theorem okM_0 : okM 0 = true := by decide +kernel
theorem okR_0_0 : okR 0 0 42 = true := by decide +kernel
theorem okM_3 : okM 3 = true := by decide +kernel
theorem okR_3_0 : okR 3 0 8 = true := by decide +kernel
theorem okM_4 : okM 4 = true := by decide +kernel
theorem okR_4_0 : okR 4 0 4 = true := by decide +kernel
theorem okM_5 : okM 5 = true := by decide +kernel
theorem okR_5_0 : okR 5 0 30 = true := by decide +kernel
theorem okM_6 : okM 6 = true := by decide +kernel
theorem okR_6_0 : okR 6 0 29 = true := by decide +kernel
theorem okM_7 : okM 7 = true := by decide +kernel
theorem okR_7_0 : okR 7 0 7 = true := by decide +kernel
theorem okM_8 : okM 8 = true := by decide +kernel
theorem okR_8_0 : okR 8 0 10 = true := by decide +kernel
theorem okM_9 : okM 9 = true := by decide +kernel
theorem okR_9_0 : okR 9 0 15 = true := by decide +kernel
theorem okM_10 : okM 10 = true := by decide +kernel
theorem okR_10_0 : okR 10 0 12 = true := by decide +kernel
theorem okM_11 : okM 11 = true := by decide +kernel
theorem okR_11_0 : okR 11 0 27 = true := by decide +kernel
theorem okM_12 : okM 12 = true := by decide +kernel
theorem okR_12_0 : okR 12 0 17 = true := by decide +kernel
theorem okM_13 : okM 13 = true := by decide +kernel
theorem okR_13_0 : okR 13 0 107 = true := by decide +kernel
theorem okM_14 : okM 14 = true := by decide +kernel
theorem okR_14_0 : okR 14 0 39 = true := by decide +kernel
theorem okM_15 : okM 15 = true := by decide +kernel
theorem okR_15_0 : okR 15 0 7 = true := by decide +kernel
theorem okM_16 : okM 16 = true := by decide +kernel
theorem okR_16_0 : okR 16 0 8 = true := by decide +kernel
theorem okM_17 : okM 17 = true := by decide +kernel
theorem okR_17_0 : okR 17 0 8 = true := by decide +kernel
theorem okM_18 : okM 18 = true := by decide +kernel
theorem okR_18_0 : okR 18 0 8 = true := by decide +kernel
theorem okM_19 : okM 19 = true := by decide +kernel
theorem okR_19_0 : okR 19 0 9 = true := by decide +kernel
theorem okM_20 : okM 20 = true := by decide +kernel
theorem okR_20_0 : okR 20 0 13 = true := by decide +kernel
theorem okM_21 : okM 21 = true := by decide +kernel
theorem okR_21_0 : okR 21 0 21 = true := by decide +kernel
theorem okM_22 : okM 22 = true := by decide +kernel
theorem okR_22_0 : okR 22 0 30 = true := by decide +kernel
theorem okM_23 : okM 23 = true := by decide +kernel
theorem okR_23_0 : okR 23 0 36 = true := by decide +kernel
theorem okM_24 : okM 24 = true := by decide +kernel
theorem okR_24_0 : okR 24 0 99 = true := by decide +kernel
theorem okM_25 : okM 25 = true := by decide +kernel
theorem okR_25_0 : okR 25 0 34 = true := by decide +kernel
theorem okM_26 : okM 26 = true := by decide +kernel
theorem okR_26_0 : okR 26 0 34 = true := by decide +kernel
theorem okM_27 : okM 27 = true := by decide +kernel
theorem okR_27_0 : okR 27 0 16 = true := by decide +kernel
theorem okM_28 : okM 28 = true := by decide +kernel
theorem okR_28_0 : okR 28 0 16 = true := by decide +kernel
theorem okM_29 : okM 29 = true := by decide +kernel
theorem okR_29_0 : okR 29 0 42 = true := by decide +kernel
theorem okM_30 : okM 30 = true := by decide +kernel
theorem okR_30_0 : okR 30 0 26 = true := by decide +kernel
theorem okM_31 : okM 31 = true := by decide +kernel
theorem okR_31_0 : okR 31 0 54 = true := by decide +kernel
theorem okM_32 : okM 32 = true := by decide +kernel
theorem okR_32_0 : okR 32 0 28 = true := by decide +kernel
theorem okM_33 : okM 33 = true := by decide +kernel
theorem okR_33_0 : okR 33 0 18 = true := by decide +kernel
theorem okM_34 : okM 34 = true := by decide +kernel
theorem okR_34_0 : okR 34 0 76 = true := by decide +kernel
theorem okM_35 : okM 35 = true := by decide +kernel
theorem okR_35_0 : okR 35 0 13 = true := by decide +kernel
theorem okM_36 : okM 36 = true := by decide +kernel
theorem okR_36_0 : okR 36 0 19 = true := by decide +kernel
theorem okM_37 : okM 37 = true := by decide +kernel
theorem okR_37_0 : okR 37 0 17 = true := by decide +kernel
theorem okM_38 : okM 38 = true := by decide +kernel
theorem okR_38_0 : okR 38 0 14 = true := by decide +kernel
theorem okM_39 : okM 39 = true := by decide +kernel
theorem okR_39_0 : okR 39 0 23 = true := by decide +kernel
theorem okM_40 : okM 40 = true := by decide +kernel
theorem okR_40_0 : okR 40 0 26 = true := by decide +kernel
theorem okM_41 : okM 41 = true := by decide +kernel
theorem okR_41_0 : okR 41 0 23 = true := by decide +kernel
theorem okM_42 : okM 42 = true := by decide +kernel
theorem okR_42_0 : okR 42 0 35 = true := by decide +kernel
theorem okM_43 : okM 43 = true := by decide +kernel
theorem okR_43_0 : okR 43 0 23 = true := by decide +kernel
theorem okM_44 : okM 44 = true := by decide +kernel
theorem okR_44_0 : okR 44 0 47 = true := by decide +kernel
theorem okM_45 : okM 45 = true := by decide +kernel
theorem okR_45_0 : okR 45 0 28 = true := by decide +kernel
theorem okM_46 : okM 46 = true := by decide +kernel
theorem okR_46_0 : okR 46 0 22 = true := by decide +kernel
theorem okM_47 : okM 47 = true := by decide +kernel
theorem okR_47_0 : okR 47 0 12 = true := by decide +kernel
theorem okM_48 : okM 48 = true := by decide +kernel
theorem okR_48_0 : okR 48 0 8 = true := by decide +kernel
theorem okM_49 : okM 49 = true := by decide +kernel
theorem okR_49_0 : okR 49 0 18 = true := by decide +kernel
theorem okM_50 : okM 50 = true := by decide +kernel
theorem okR_50_0 : okR 50 0 30 = true := by decide +kernel
theorem okM_51 : okM 51 = true := by decide +kernel
theorem okR_51_0 : okR 51 0 30 = true := by decide +kernel
theorem okM_52 : okM 52 = true := by decide +kernel
theorem okR_52_0 : okR 52 0 19 = true := by decide +kernel
theorem okM_53 : okM 53 = true := by decide +kernel
theorem okR_53_0 : okR 53 0 60 = true := by decide +kernel
theorem okM_54 : okM 54 = true := by decide +kernel
theorem okR_54_0 : okR 54 0 20 = true := by decide +kernel
theorem okM_55 : okM 55 = true := by decide +kernel
theorem okR_55_0 : okR 55 0 61 = true := by decide +kernel
theorem okM_56 : okM 56 = true := by decide +kernel
theorem okR_56_0 : okR 56 0 7 = true := by decide +kernel
theorem okM_57 : okM 57 = true := by decide +kernel
theorem okR_57_0 : okR 57 0 5 = true := by decide +kernel
theorem okM_58 : okM 58 = true := by decide +kernel
theorem okR_58_0 : okR 58 0 13 = true := by decide +kernel
theorem okM_59 : okM 59 = true := by decide +kernel
theorem okR_59_0 : okR 59 0 19 = true := by decide +kernel
theorem okM_60 : okM 60 = true := by decide +kernel
theorem okR_60_0 : okR 60 0 20 = true := by decide +kernel
theorem okM_61 : okM 61 = true := by decide +kernel
theorem okR_61_0 : okR 61 0 14 = true := by decide +kernel
theorem okM_62 : okM 62 = true := by decide +kernel
theorem okR_62_0 : okR 62 0 62 = true := by decide +kernel
theorem okM_63 : okM 63 = true := by decide +kernel
theorem okR_63_0 : okR 63 0 21 = true := by decide +kernel
theorem okM_64 : okM 64 = true := by decide +kernel
theorem okR_64_0 : okR 64 0 27 = true := by decide +kernel
theorem okM_65 : okM 65 = true := by decide +kernel
theorem okR_65_0 : okR 65 0 5 = true := by decide +kernel
theorem okM_66 : okM 66 = true := by decide +kernel
theorem okR_66_0 : okR 66 0 10 = true := by decide +kernel
theorem okM_67 : okM 67 = true := by decide +kernel
theorem okR_67_0 : okR 67 0 16 = true := by decide +kernel
theorem okM_68 : okM 68 = true := by decide +kernel
theorem okR_68_0 : okR 68 0 16 = true := by decide +kernel
theorem okM_69 : okM 69 = true := by decide +kernel
theorem okR_69_0 : okR 69 0 37 = true := by decide +kernel
theorem okM_70 : okM 70 = true := by decide +kernel
theorem okR_70_0 : okR 70 0 22 = true := by decide +kernel
theorem okM_71 : okM 71 = true := by decide +kernel
theorem okR_71_0 : okR 71 0 27 = true := by decide +kernel
theorem okM_72 : okM 72 = true := by decide +kernel
theorem okR_72_0 : okR 72 0 12 = true := by decide +kernel
theorem okM_73 : okM 73 = true := by decide +kernel
theorem okR_73_0 : okR 73 0 18 = true := by decide +kernel
theorem okM_74 : okM 74 = true := by decide +kernel
theorem okR_74_0 : okR 74 0 10 = true := by decide +kernel
theorem okM_75 : okM 75 = true := by decide +kernel
theorem okR_75_0 : okR 75 0 17 = true := by decide +kernel
theorem okM_76 : okM 76 = true := by decide +kernel
theorem okR_76_0 : okR 76 0 25 = true := by decide +kernel
theorem okM_77 : okM 77 = true := by decide +kernel
theorem okR_77_0 : okR 77 0 17 = true := by decide +kernel
theorem okM_78 : okM 78 = true := by decide +kernel
theorem okR_78_0 : okR 78 0 6 = true := by decide +kernel
theorem okM_79 : okM 79 = true := by decide +kernel
theorem okR_79_0 : okR 79 0 11 = true := by decide +kernel
theorem okM_80 : okM 80 = true := by decide +kernel
theorem okR_80_0 : okR 80 0 6 = true := by decide +kernel
theorem okM_81 : okM 81 = true := by decide +kernel
theorem okR_81_0 : okR 81 0 19 = true := by decide +kernel
theorem okM_82 : okM 82 = true := by decide +kernel
theorem okR_82_0 : okR 82 0 22 = true := by decide +kernel
theorem okM_83 : okM 83 = true := by decide +kernel
theorem okR_83_0 : okR 83 0 31 = true := by decide +kernel
theorem okM_84 : okM 84 = true := by decide +kernel
theorem okR_84_0 : okR 84 0 32 = true := by decide +kernel
theorem okM_85 : okM 85 = true := by decide +kernel
theorem okR_85_0 : okR 85 0 24 = true := by decide +kernel
theorem okM_86 : okM 86 = true := by decide +kernel
theorem okR_86_0 : okR 86 0 20 = true := by decide +kernel
theorem okM_87 : okM 87 = true := by decide +kernel
theorem okR_87_0 : okR 87 0 27 = true := by decide +kernel
theorem okM_88 : okM 88 = true := by decide +kernel
theorem okR_88_0 : okR 88 0 33 = true := by decide +kernel
theorem okM_89 : okM 89 = true := by decide +kernel
theorem okR_89_0 : okR 89 0 29 = true := by decide +kernel
theorem okM_90 : okM 90 = true := by decide +kernel
theorem okR_90_0 : okR 90 0 35 = true := by decide +kernel
theorem okM_91 : okM 91 = true := by decide +kernel
theorem okR_91_0 : okR 91 0 12 = true := by decide +kernel
theorem okM_92 : okM 92 = true := by decide +kernel
theorem okR_92_0 : okR 92 0 27 = true := by decide +kernel
theorem okM_93 : okM 93 = true := by decide +kernel
theorem okR_93_0 : okR 93 0 30 = true := by decide +kernel
theorem okM_94 : okM 94 = true := by decide +kernel
theorem okR_94_0 : okR 94 0 30 = true := by decide +kernel
theorem okM_95 : okM 95 = true := by decide +kernel
theorem okR_95_0 : okR 95 0 32 = true := by decide +kernel
theorem okM_96 : okM 96 = true := by decide +kernel
theorem okR_96_0 : okR 96 0 30 = true := by decide +kernel
theorem okM_97 : okM 97 = true := by decide +kernel
theorem okR_97_0 : okR 97 0 26 = true := by decide +kernel
theorem okM_98 : okM 98 = true := by decide +kernel
theorem okR_98_0 : okR 98 0 25 = true := by decide +kernel
theorem okM_99 : okM 99 = true := by decide +kernel
theorem okR_99_0 : okR 99 0 6 = true := by decide +kernel
theorem okM_100 : okM 100 = true := by decide +kernel
theorem okR_100_0 : okR 100 0 46 = true := by decide +kernel
theorem okM_101 : okM 101 = true := by decide +kernel
theorem okR_101_0 : okR 101 0 18 = true := by decide +kernel
theorem okM_102 : okM 102 = true := by decide +kernel
theorem okR_102_0 : okR 102 0 15 = true := by decide +kernel
theorem okM_103 : okM 103 = true := by decide +kernel
theorem okR_103_0 : okR 103 0 16 = true := by decide +kernel
theorem okM_104 : okM 104 = true := by decide +kernel
theorem okR_104_0 : okR 104 0 65 = true := by decide +kernel
theorem okM_105 : okM 105 = true := by decide +kernel
theorem okR_105_0 : okR 105 0 51 = true := by decide +kernel
theorem okM_106 : okM 106 = true := by decide +kernel
theorem okR_106_0 : okR 106 0 31 = true := by decide +kernel
theorem okM_107 : okM 107 = true := by decide +kernel
theorem okR_107_0 : okR 107 0 29 = true := by decide +kernel
theorem okM_108 : okM 108 = true := by decide +kernel
theorem okR_108_0 : okR 108 0 39 = true := by decide +kernel
theorem okM_109 : okM 109 = true := by decide +kernel
theorem okR_109_0 : okR 109 0 23 = true := by decide +kernel
theorem okM_110 : okM 110 = true := by decide +kernel
theorem okR_110_0 : okR 110 0 18 = true := by decide +kernel
theorem okM_111 : okM 111 = true := by decide +kernel
theorem okR_111_0 : okR 111 0 24 = true := by decide +kernel
theorem okM_112 : okM 112 = true := by decide +kernel
theorem okR_112_0 : okR 112 0 4 = true := by decide +kernel
theorem okM_113 : okM 113 = true := by decide +kernel
theorem okR_113_0 : okR 113 0 15 = true := by decide +kernel
theorem okM_114 : okM 114 = true := by decide +kernel
theorem okR_114_0 : okR 114 0 41 = true := by decide +kernel
theorem okM_115 : okM 115 = true := by decide +kernel
theorem okR_115_0 : okR 115 0 28 = true := by decide +kernel
theorem okM_116 : okM 116 = true := by decide +kernel
theorem okR_116_0 : okR 116 0 31 = true := by decide +kernel
theorem okM_117 : okM 117 = true := by decide +kernel
theorem okR_117_0 : okR 117 0 52 = true := by decide +kernel
theorem okM_118 : okM 118 = true := by decide +kernel
theorem okR_118_0 : okR 118 0 38 = true := by decide +kernel
theorem okM_119 : okM 119 = true := by decide +kernel
theorem okR_119_0 : okR 119 0 39 = true := by decide +kernel
theorem okM_120 : okM 120 = true := by decide +kernel
theorem okR_120_0 : okR 120 0 29 = true := by decide +kernel
theorem okM_121 : okM 121 = true := by decide +kernel
theorem okR_121_0 : okR 121 0 27 = true := by decide +kernel
theorem okM_122 : okM 122 = true := by decide +kernel
theorem okR_122_0 : okR 122 0 37 = true := by decide +kernel
theorem okM_123 : okM 123 = true := by decide +kernel
theorem okR_123_0 : okR 123 0 23 = true := by decide +kernel
theorem okM_124 : okM 124 = true := by decide +kernel
theorem okR_124_0 : okR 124 0 15 = true := by decide +kernel
theorem okM_125 : okM 125 = true := by decide +kernel
theorem okR_125_0 : okR 125 0 18 = true := by decide +kernel
theorem okM_126 : okM 126 = true := by decide +kernel
theorem okR_126_0 : okR 126 0 21 = true := by decide +kernel
theorem okM_127 : okM 127 = true := by decide +kernel
theorem okR_127_0 : okR 127 0 22 = true := by decide +kernel
theorem okM_128 : okM 128 = true := by decide +kernel
theorem okR_128_0 : okR 128 0 25 = true := by decide +kernel
theorem okM_129 : okM 129 = true := by decide +kernel
theorem okR_129_0 : okR 129 0 33 = true := by decide +kernel
theorem okM_130 : okM 130 = true := by decide +kernel
theorem okR_130_0 : okR 130 0 30 = true := by decide +kernel
theorem okM_131 : okM 131 = true := by decide +kernel
theorem okR_131_0 : okR 131 0 25 = true := by decide +kernel
theorem okM_132 : okM 132 = true := by decide +kernel
theorem okR_132_0 : okR 132 0 19 = true := by decide +kernel
theorem okM_133 : okM 133 = true := by decide +kernel
theorem okR_133_0 : okR 133 0 10 = true := by decide +kernel
theorem okM_134 : okM 134 = true := by decide +kernel
theorem okR_134_0 : okR 134 0 38 = true := by decide +kernel
theorem okM_135 : okM 135 = true := by decide +kernel
theorem okR_135_0 : okR 135 0 79 = true := by decide +kernel
theorem okM_136 : okM 136 = true := by decide +kernel
theorem okR_136_0 : okR 136 0 55 = true := by decide +kernel
theorem okM_137 : okM 137 = true := by decide +kernel
theorem okR_137_0 : okR 137 0 47 = true := by decide +kernel
theorem okM_138 : okM 138 = true := by decide +kernel
theorem okR_138_0 : okR 138 0 61 = true := by decide +kernel
theorem okM_139 : okM 139 = true := by decide +kernel
theorem okR_139_0 : okR 139 0 40 = true := by decide +kernel
theorem okM_140 : okM 140 = true := by decide +kernel
theorem okR_140_0 : okR 140 0 22 = true := by decide +kernel
theorem okM_141 : okM 141 = true := by decide +kernel
theorem okR_141_0 : okR 141 0 27 = true := by decide +kernel
theorem okM_142 : okM 142 = true := by decide +kernel
theorem okR_142_0 : okR 142 0 13 = true := by decide +kernel
theorem okM_143 : okM 143 = true := by decide +kernel
theorem okR_143_0 : okR 143 0 28 = true := by decide +kernel
theorem okM_144 : okM 144 = true := by decide +kernel
theorem okR_144_0 : okR 144 0 20 = true := by decide +kernel
theorem okM_145 : okM 145 = true := by decide +kernel
theorem okR_145_0 : okR 145 0 5 = true := by decide +kernel
theorem okM_146 : okM 146 = true := by decide +kernel
theorem okR_146_0 : okR 146 0 36 = true := by decide +kernel
theorem okM_147 : okM 147 = true := by decide +kernel
theorem okR_147_0 : okR 147 0 3 = true := by decide +kernel
theorem okM_148 : okM 148 = true := by decide +kernel
theorem okR_148_0 : okR 148 0 7 = true := by decide +kernel
theorem okM_149 : okM 149 = true := by decide +kernel
theorem okR_149_0 : okR 149 0 5 = true := by decide +kernel
theorem okM_150 : okM 150 = true := by decide +kernel
theorem okR_150_0 : okR 150 0 10 = true := by decide +kernel
theorem okM_151 : okM 151 = true := by decide +kernel
theorem okR_151_0 : okR 151 0 11 = true := by decide +kernel
theorem okM_152 : okM 152 = true := by decide +kernel
theorem okR_152_0 : okR 152 0 10 = true := by decide +kernel
theorem okM_153 : okM 153 = true := by decide +kernel
theorem okR_153_0 : okR 153 0 23 = true := by decide +kernel
theorem okM_154 : okM 154 = true := by decide +kernel
theorem okR_154_0 : okR 154 0 25 = true := by decide +kernel
theorem okM_155 : okM 155 = true := by decide +kernel
theorem okR_155_0 : okR 155 0 83 = true := by decide +kernel
theorem okM_156 : okM 156 = true := by decide +kernel
theorem okR_156_0 : okR 156 0 12 = true := by decide +kernel
theorem okM_157 : okM 157 = true := by decide +kernel
theorem okR_157_0 : okR 157 0 7 = true := by decide +kernel
theorem okM_158 : okM 158 = true := by decide +kernel
theorem okR_158_0 : okR 158 0 6 = true := by decide +kernel
theorem okM_159 : okM 159 = true := by decide +kernel
theorem okR_159_0 : okR 159 0 54 = true := by decide +kernel
theorem okM_160 : okM 160 = true := by decide +kernel
theorem okR_160_0 : okR 160 0 71 = true := by decide +kernel
theorem okM_161 : okM 161 = true := by decide +kernel
theorem okR_161_0 : okR 161 0 121 = true := by decide +kernel
theorem okM_162 : okM 162 = true := by decide +kernel
theorem okR_162_0 : okR 162 0 30 = true := by decide +kernel
theorem okM_163 : okM 163 = true := by decide +kernel
theorem okR_163_0 : okR 163 0 32 = true := by decide +kernel
theorem okM_164 : okM 164 = true := by decide +kernel
theorem okR_164_0 : okR 164 0 11 = true := by decide +kernel
theorem okM_165 : okM 165 = true := by decide +kernel
theorem okR_165_0 : okR 165 0 138 = true := by decide +kernel
theorem okM_166 : okM 166 = true := by decide +kernel
theorem okR_166_0 : okR 166 0 11 = true := by decide +kernel
theorem okM_167 : okM 167 = true := by decide +kernel
theorem okR_167_0 : okR 167 0 15 = true := by decide +kernel
theorem okM_168 : okM 168 = true := by decide +kernel
theorem okR_168_0 : okR 168 0 38 = true := by decide +kernel
theorem okM_169 : okM 169 = true := by decide +kernel
theorem okR_169_0 : okR 169 0 14 = true := by decide +kernel
theorem okM_170 : okM 170 = true := by decide +kernel
theorem okR_170_0 : okR 170 0 9 = true := by decide +kernel
theorem okM_171 : okM 171 = true := by decide +kernel
theorem okR_171_0 : okR 171 0 30 = true := by decide +kernel
theorem okM_172 : okM 172 = true := by decide +kernel
theorem okR_172_0 : okR 172 0 6 = true := by decide +kernel
theorem okM_173 : okM 173 = true := by decide +kernel
theorem okR_173_0 : okR 173 0 27 = true := by decide +kernel
theorem okM_174 : okM 174 = true := by decide +kernel
theorem okR_174_0 : okR 174 0 16 = true := by decide +kernel
theorem okM_175 : okM 175 = true := by decide +kernel
theorem okR_175_0 : okR 175 0 102 = true := by decide +kernel
theorem okM_176 : okM 176 = true := by decide +kernel
theorem okR_176_0 : okR 176 0 97 = true := by decide +kernel
theorem okM_177 : okM 177 = true := by decide +kernel
theorem okR_177_0 : okR 177 0 120 = true := by decide +kernel
theorem okM_178 : okM 178 = true := by decide +kernel
theorem okR_178_0 : okR 178 0 9 = true := by decide +kernel
theorem okM_179 : okM 179 = true := by decide +kernel
theorem okR_179_0 : okR 179 0 12 = true := by decide +kernel
theorem okM_180 : okM 180 = true := by decide +kernel
theorem okR_180_0 : okR 180 0 12 = true := by decide +kernel
theorem okM_181 : okM 181 = true := by decide +kernel
theorem okR_181_0 : okR 181 0 12 = true := by decide +kernel
theorem okM_182 : okM 182 = true := by decide +kernel
theorem okR_182_0 : okR 182 0 19 = true := by decide +kernel
theorem okM_183 : okM 183 = true := by decide +kernel
theorem okR_183_0 : okR 183 0 11 = true := by decide +kernel
theorem okM_184 : okM 184 = true := by decide +kernel
theorem okR_184_0 : okR 184 0 10 = true := by decide +kernel
theorem okM_185 : okM 185 = true := by decide +kernel
theorem okR_185_0 : okR 185 0 10 = true := by decide +kernel
theorem okM_186 : okM 186 = true := by decide +kernel
theorem okR_186_0 : okR 186 0 9 = true := by decide +kernel
theorem okM_187 : okM 187 = true := by decide +kernel
theorem okR_187_0 : okR 187 0 14 = true := by decide +kernel
theorem okM_188 : okM 188 = true := by decide +kernel
theorem okR_188_0 : okR 188 0 37 = true := by decide +kernel
theorem okM_189 : okM 189 = true := by decide +kernel
theorem okR_189_0 : okR 189 0 24 = true := by decide +kernel
theorem okM_190 : okM 190 = true := by decide +kernel
theorem okR_190_0 : okR 190 0 64 = true := by decide +kernel
theorem okM_191 : okM 191 = true := by decide +kernel
theorem okR_191_0 : okR 191 0 139 = true := by decide +kernel
theorem okM_192 : okM 192 = true := by decide +kernel
theorem okR_192_0 : okR 192 0 11 = true := by decide +kernel
theorem okM_193 : okM 193 = true := by decide +kernel
theorem okR_193_0 : okR 193 0 16 = true := by decide +kernel
theorem okM_194 : okM 194 = true := by decide +kernel
theorem okR_194_0 : okR 194 0 23 = true := by decide +kernel
theorem okM_195 : okM 195 = true := by decide +kernel
theorem okR_195_0 : okR 195 0 20 = true := by decide +kernel
theorem okM_196 : okM 196 = true := by decide +kernel
theorem okR_196_0 : okR 196 0 54 = true := by decide +kernel
theorem okM_197 : okM 197 = true := by decide +kernel
theorem okR_197_0 : okR 197 0 43 = true := by decide +kernel
theorem okM_198 : okM 198 = true := by decide +kernel
theorem okR_198_0 : okR 198 0 29 = true := by decide +kernel
theorem okM_199 : okM 199 = true := by decide +kernel
theorem okR_199_0 : okR 199 0 36 = true := by decide +kernel
theorem okM_200 : okM 200 = true := by decide +kernel
theorem okR_200_0 : okR 200 0 48 = true := by decide +kernel
theorem okM_201 : okM 201 = true := by decide +kernel
theorem okR_201_0 : okR 201 0 43 = true := by decide +kernel
theorem okM_202 : okM 202 = true := by decide +kernel
theorem okR_202_0 : okR 202 0 37 = true := by decide +kernel
theorem okM_203 : okM 203 = true := by decide +kernel
theorem okR_203_0 : okR 203 0 78 = true := by decide +kernel
theorem okM_204 : okM 204 = true := by decide +kernel
theorem okR_204_0 : okR 204 0 21 = true := by decide +kernel
theorem okM_205 : okM 205 = true := by decide +kernel
theorem okR_205_0 : okR 205 0 81 = true := by decide +kernel
theorem okM_206 : okM 206 = true := by decide +kernel
theorem okR_206_0 : okR 206 0 36 = true := by decide +kernel
theorem okM_207 : okM 207 = true := by decide +kernel
theorem okR_207_0 : okR 207 0 29 = true := by decide +kernel
theorem okM_208 : okM 208 = true := by decide +kernel
theorem okR_208_0 : okR 208 0 20 = true := by decide +kernel
theorem okM_209 : okM 209 = true := by decide +kernel
theorem okR_209_0 : okR 209 0 15 = true := by decide +kernel
theorem okM_210 : okM 210 = true := by decide +kernel
theorem okR_210_0 : okR 210 0 36 = true := by decide +kernel
theorem okM_211 : okM 211 = true := by decide +kernel
theorem okR_211_0 : okR 211 0 48 = true := by decide +kernel
theorem okM_212 : okM 212 = true := by decide +kernel
theorem okR_212_0 : okR 212 0 38 = true := by decide +kernel
theorem okM_213 : okM 213 = true := by decide +kernel
theorem okR_213_0 : okR 213 0 136 = true := by decide +kernel
theorem okM_214 : okM 214 = true := by decide +kernel
theorem okR_214_0 : okR 214 0 96 = true := by decide +kernel
theorem okM_215 : okM 215 = true := by decide +kernel
theorem okR_215_0 : okR 215 0 78 = true := by decide +kernel
theorem okM_216 : okM 216 = true := by decide +kernel
theorem okR_216_0 : okR 216 0 77 = true := by decide +kernel
theorem okM_217 : okM 217 = true := by decide +kernel
theorem okR_217_0 : okR 217 0 38 = true := by decide +kernel
theorem okM_218 : okM 218 = true := by decide +kernel
theorem okR_218_0 : okR 218 0 21 = true := by decide +kernel
theorem okM_219 : okM 219 = true := by decide +kernel
theorem okR_219_0 : okR 219 0 40 = true := by decide +kernel
theorem okM_220 : okM 220 = true := by decide +kernel
theorem okR_220_0 : okR 220 0 104 = true := by decide +kernel
theorem okM_221 : okM 221 = true := by decide +kernel
theorem okR_221_0 : okR 221 0 33 = true := by decide +kernel
theorem okM_222 : okM 222 = true := by decide +kernel
theorem okR_222_0 : okR 222 0 32 = true := by decide +kernel
theorem okM_223 : okM 223 = true := by decide +kernel
theorem okR_223_0 : okR 223 0 113 = true := by decide +kernel
theorem okM_224 : okM 224 = true := by decide +kernel
theorem okR_224_0 : okR 224 0 74 = true := by decide +kernel
theorem okM_225 : okM 225 = true := by decide +kernel
theorem okR_225_0 : okR 225 0 63 = true := by decide +kernel
theorem okM_226 : okM 226 = true := by decide +kernel
theorem okR_226_0 : okR 226 0 175 = true := by decide +kernel
theorem okM_227 : okM 227 = true := by decide +kernel
theorem okR_227_0 : okR 227 0 104 = true := by decide +kernel
theorem okM_228 : okM 228 = true := by decide +kernel
theorem okR_228_0 : okR 228 0 42 = true := by decide +kernel
theorem okM_229 : okM 229 = true := by decide +kernel
theorem okR_229_0 : okR 229 0 42 = true := by decide +kernel
theorem okM_230 : okM 230 = true := by decide +kernel
theorem okR_230_0 : okR 230 0 21 = true := by decide +kernel
theorem okM_231 : okM 231 = true := by decide +kernel
theorem okR_231_0 : okR 231 0 15 = true := by decide +kernel
theorem okM_232 : okM 232 = true := by decide +kernel
theorem okR_232_0 : okR 232 0 32 = true := by decide +kernel
theorem okM_233 : okM 233 = true := by decide +kernel
theorem okR_233_0 : okR 233 0 17 = true := by decide +kernel
theorem okM_234 : okM 234 = true := by decide +kernel
theorem okR_234_0 : okR 234 0 9 = true := by decide +kernel
theorem okM_235 : okM 235 = true := by decide +kernel
theorem okR_235_0 : okR 235 0 33 = true := by decide +kernel
theorem okM_236 : okM 236 = true := by decide +kernel
theorem okR_236_0 : okR 236 0 62 = true := by decide +kernel
theorem okM_237 : okM 237 = true := by decide +kernel
theorem okR_237_0 : okR 237 0 40 = true := by decide +kernel
theorem okM_238 : okM 238 = true := by decide +kernel
theorem okR_238_0 : okR 238 0 28 = true := by decide +kernel
theorem okM_239 : okM 239 = true := by decide +kernel
theorem okR_239_0 : okR 239 0 20 = true := by decide +kernel
theorem okM_240 : okM 240 = true := by decide +kernel
theorem okR_240_0 : okR 240 0 73 = true := by decide +kernel
theorem okM_241 : okM 241 = true := by decide +kernel
theorem okR_241_0 : okR 241 0 6 = true := by decide +kernel
theorem okR_242_0 : okR 242 0 200 = true := by decide +kernel
theorem okR_242_200 : okR 242 200 200 = true := by decide +kernel
theorem okR_242_400 : okR 242 400 200 = true := by decide +kernel
theorem okR_242_600 : okR 242 600 200 = true := by decide +kernel
theorem okR_242_800 : okR 242 800 200 = true := by decide +kernel
theorem okR_242_1000 : okR 242 1000 151 = true := by decide +kernel
