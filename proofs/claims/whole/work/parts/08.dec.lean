theorem ip_dk_124_0 : (ip_cT_124_0.all (ip_chk 124)) = true := by decide +kernel
theorem ip_dk_125_0 : (ip_cT_125_0.all (ip_chk 125)) = true := by decide +kernel
theorem ip_dk_126_0 : (ip_cT_126_0.all (ip_chk 126)) = true := by decide +kernel
theorem ip_dk_127_0 : (ip_cT_127_0.all (ip_chk 127)) = true := by decide +kernel
theorem ip_dk_128_0 : (ip_cT_128_0.all (ip_chk 128)) = true := by decide +kernel
theorem ip_dk_128_1 : (ip_cT_128_1.all (ip_chk 128)) = true := by decide +kernel
theorem ip_dk_129_0 : (ip_cT_129_0.all (ip_chk 129)) = true := by decide +kernel
theorem ip_dk_130_0 : (ip_cT_130_0.all (ip_chk 130)) = true := by decide +kernel
theorem ip_dk_131_0 : (ip_cT_131_0.all (ip_chk 131)) = true := by decide +kernel
theorem ip_dk_132_0 : (ip_cT_132_0.all (ip_chk 132)) = true := by decide +kernel
theorem ip_dk_133_0 : (ip_cT_133_0.all (ip_chk 133)) = true := by decide +kernel
theorem ip_dk_134_0 : (ip_cT_134_0.all (ip_chk 134)) = true := by decide +kernel
theorem ip_dk_135_0 : (ip_cT_135_0.all (ip_chk 135)) = true := by decide +kernel
theorem ip_dk_136_0 : (ip_cT_136_0.all (ip_chk 136)) = true := by decide +kernel
theorem ip_dk_137_0 : (ip_cT_137_0.all (ip_chk 137)) = true := by decide +kernel
theorem ip_dk_137_1 : (ip_cT_137_1.all (ip_chk 137)) = true := by decide +kernel
theorem ip_dk_138_0 : (ip_cT_138_0.all (ip_chk 138)) = true := by decide +kernel
theorem ip_dk_139_0 : (ip_cT_139_0.all (ip_chk 139)) = true := by decide +kernel
theorem ip_dk_140_0 : (ip_cT_140_0.all (ip_chk 140)) = true := by decide +kernel
theorem ip_dk_141_0 : (ip_cT_141_0.all (ip_chk 141)) = true := by decide +kernel
theorem ip_dk_142_0 : (ip_cT_142_0.all (ip_chk 142)) = true := by decide +kernel
theorem ip_dk_143_0 : (ip_cT_143_0.all (ip_chk 143)) = true := by decide +kernel
theorem ip_dk_144_0 : (ip_cT_144_0.all (ip_chk 144)) = true := by decide +kernel
theorem ip_dk_145_0 : (ip_cT_145_0.all (ip_chk 145)) = true := by decide +kernel
theorem ip_dk_146_0 : (ip_cT_146_0.all (ip_chk 146)) = true := by decide +kernel
theorem ip_dk_147_0 : (ip_cT_147_0.all (ip_chk 147)) = true := by decide +kernel
theorem ip_dk_148_0 : (ip_cT_148_0.all (ip_chk 148)) = true := by decide +kernel
theorem ip_dk_148_1 : (ip_cT_148_1.all (ip_chk 148)) = true := by decide +kernel
theorem ip_dk_149_0 : (ip_cT_149_0.all (ip_chk 149)) = true := by decide +kernel
theorem ip_dk_149_1 : (ip_cT_149_1.all (ip_chk 149)) = true := by decide +kernel
theorem ip_dk_150_0 : (ip_cT_150_0.all (ip_chk 150)) = true := by decide +kernel
theorem ip_dk_151_0 : (ip_cT_151_0.all (ip_chk 151)) = true := by decide +kernel
theorem ip_dk_152_0 : (ip_cT_152_0.all (ip_chk 152)) = true := by decide +kernel
theorem ip_dk_153_0 : (ip_cT_153_0.all (ip_chk 153)) = true := by decide +kernel
theorem ip_dk_154_0 : (ip_cT_154_0.all (ip_chk 154)) = true := by decide +kernel
theorem ip_dk_155_0 : (ip_cT_155_0.all (ip_chk 155)) = true := by decide +kernel
theorem ip_dk_156_0 : (ip_cT_156_0.all (ip_chk 156)) = true := by decide +kernel
theorem ip_dk_157_0 : (ip_cT_157_0.all (ip_chk 157)) = true := by decide +kernel
theorem ip_dk_158_0 : (ip_cT_158_0.all (ip_chk 158)) = true := by decide +kernel
theorem ip_dk_159_0 : (ip_cT_159_0.all (ip_chk 159)) = true := by decide +kernel
theorem ip_dk_160_0 : (ip_cT_160_0.all (ip_chk 160)) = true := by decide +kernel
theorem ip_dk_161_0 : (ip_cT_161_0.all (ip_chk 161)) = true := by decide +kernel
theorem ip_dk_161_1 : (ip_cT_161_1.all (ip_chk 161)) = true := by decide +kernel
theorem ip_dk_161_2 : (ip_cT_161_2.all (ip_chk 161)) = true := by decide +kernel
theorem ip_dk_161_3 : (ip_cT_161_3.all (ip_chk 161)) = true := by decide +kernel
theorem ip_dk_162_0 : (ip_cT_162_0.all (ip_chk 162)) = true := by decide +kernel
theorem ip_dk_162_1 : (ip_cT_162_1.all (ip_chk 162)) = true := by decide +kernel
theorem ip_dk_163_0 : (ip_cT_163_0.all (ip_chk 163)) = true := by decide +kernel
theorem ip_dk_164_0 : (ip_cT_164_0.all (ip_chk 164)) = true := by decide +kernel
theorem ip_dk_165_0 : (ip_cT_165_0.all (ip_chk 165)) = true := by decide +kernel
theorem ip_dk_166_0 : (ip_cT_166_0.all (ip_chk 166)) = true := by decide +kernel
theorem ip_dk_167_0 : (ip_cT_167_0.all (ip_chk 167)) = true := by decide +kernel
theorem ip_dk_168_0 : (ip_cT_168_0.all (ip_chk 168)) = true := by decide +kernel
theorem ip_dk_169_0 : (ip_cT_169_0.all (ip_chk 169)) = true := by decide +kernel
theorem ip_dk_170_0 : (ip_cT_170_0.all (ip_chk 170)) = true := by decide +kernel
theorem ip_dk_171_0 : (ip_cT_171_0.all (ip_chk 171)) = true := by decide +kernel
theorem ip_dk_172_0 : (ip_cT_172_0.all (ip_chk 172)) = true := by decide +kernel
theorem ip_dk_173_0 : (ip_cT_173_0.all (ip_chk 173)) = true := by decide +kernel
theorem ip_dk_174_0 : (ip_cT_174_0.all (ip_chk 174)) = true := by decide +kernel
theorem ip_dk_175_0 : (ip_cT_175_0.all (ip_chk 175)) = true := by decide +kernel
theorem ip_dk_176_0 : (ip_cT_176_0.all (ip_chk 176)) = true := by decide +kernel
theorem ip_dk_177_0 : (ip_cT_177_0.all (ip_chk 177)) = true := by decide +kernel
theorem ip_dk_177_1 : (ip_cT_177_1.all (ip_chk 177)) = true := by decide +kernel
theorem ip_dk_178_0 : (ip_cT_178_0.all (ip_chk 178)) = true := by decide +kernel
theorem ip_dk_178_1 : (ip_cT_178_1.all (ip_chk 178)) = true := by decide +kernel
theorem ip_dk_179_0 : (ip_cT_179_0.all (ip_chk 179)) = true := by decide +kernel
theorem ip_dk_180_0 : (ip_cT_180_0.all (ip_chk 180)) = true := by decide +kernel
theorem ip_dk_181_0 : (ip_cT_181_0.all (ip_chk 181)) = true := by decide +kernel
theorem ip_dk_182_0 : (ip_cT_182_0.all (ip_chk 182)) = true := by decide +kernel
theorem ip_dk_183_0 : (ip_cT_183_0.all (ip_chk 183)) = true := by decide +kernel
theorem ip_dk_184_0 : (ip_cT_184_0.all (ip_chk 184)) = true := by decide +kernel
theorem ip_dk_185_0 : (ip_cT_185_0.all (ip_chk 185)) = true := by decide +kernel
theorem ip_dk_186_0 : (ip_cT_186_0.all (ip_chk 186)) = true := by decide +kernel
theorem ip_dk_187_0 : (ip_cT_187_0.all (ip_chk 187)) = true := by decide +kernel
theorem ip_dk_187_1 : (ip_cT_187_1.all (ip_chk 187)) = true := by decide +kernel
theorem ip_dk_188_0 : (ip_cT_188_0.all (ip_chk 188)) = true := by decide +kernel
theorem ip_dk_188_1 : (ip_cT_188_1.all (ip_chk 188)) = true := by decide +kernel
theorem ip_dk_189_0 : (ip_cT_189_0.all (ip_chk 189)) = true := by decide +kernel
theorem ip_dk_190_0 : (ip_cT_190_0.all (ip_chk 190)) = true := by decide +kernel
theorem ip_dk_191_0 : (ip_cT_191_0.all (ip_chk 191)) = true := by decide +kernel
theorem ip_dk_192_0 : (ip_cT_192_0.all (ip_chk 192)) = true := by decide +kernel
theorem ip_dk_193_0 : (ip_cT_193_0.all (ip_chk 193)) = true := by decide +kernel
theorem ip_dk_194_0 : (ip_cT_194_0.all (ip_chk 194)) = true := by decide +kernel
theorem ip_dk_195_0 : (ip_cT_195_0.all (ip_chk 195)) = true := by decide +kernel
theorem ip_dk_196_0 : (ip_cT_196_0.all (ip_chk 196)) = true := by decide +kernel
theorem ip_dk_197_0 : (ip_cT_197_0.all (ip_chk 197)) = true := by decide +kernel
theorem ip_dk_198_0 : (ip_cT_198_0.all (ip_chk 198)) = true := by decide +kernel
theorem ip_dk_199_0 : (ip_cT_199_0.all (ip_chk 199)) = true := by decide +kernel
theorem ip_dk_200_0 : (ip_cT_200_0.all (ip_chk 200)) = true := by decide +kernel
theorem ip_dk_200_1 : (ip_cT_200_1.all (ip_chk 200)) = true := by decide +kernel
theorem ip_dk_201_0 : (ip_cT_201_0.all (ip_chk 201)) = true := by decide +kernel
theorem ip_dk_202_0 : (ip_cT_202_0.all (ip_chk 202)) = true := by decide +kernel
theorem ip_dk_202_1 : (ip_cT_202_1.all (ip_chk 202)) = true := by decide +kernel
theorem ip_dk_202_2 : (ip_cT_202_2.all (ip_chk 202)) = true := by decide +kernel
theorem ip_dk_203_0 : (ip_cT_203_0.all (ip_chk 203)) = true := by decide +kernel
theorem ip_dk_204_0 : (ip_cT_204_0.all (ip_chk 204)) = true := by decide +kernel
theorem ip_dk_205_0 : (ip_cT_205_0.all (ip_chk 205)) = true := by decide +kernel
theorem ip_dk_206_0 : (ip_cT_206_0.all (ip_chk 206)) = true := by decide +kernel
theorem ip_dk_207_0 : (ip_cT_207_0.all (ip_chk 207)) = true := by decide +kernel
theorem ip_dk_208_0 : (ip_cT_208_0.all (ip_chk 208)) = true := by decide +kernel
theorem ip_dk_208_1 : (ip_cT_208_1.all (ip_chk 208)) = true := by decide +kernel
theorem ip_dk_209_0 : (ip_cT_209_0.all (ip_chk 209)) = true := by decide +kernel
theorem ip_dk_209_1 : (ip_cT_209_1.all (ip_chk 209)) = true := by decide +kernel
theorem ip_dk_210_0 : (ip_cT_210_0.all (ip_chk 210)) = true := by decide +kernel
theorem ip_dk_211_0 : (ip_cT_211_0.all (ip_chk 211)) = true := by decide +kernel
theorem ip_dk_211_1 : (ip_cT_211_1.all (ip_chk 211)) = true := by decide +kernel
theorem ip_dk_212_0 : (ip_cT_212_0.all (ip_chk 212)) = true := by decide +kernel
theorem ip_dk_212_1 : (ip_cT_212_1.all (ip_chk 212)) = true := by decide +kernel
theorem ip_dk_213_0 : (ip_cT_213_0.all (ip_chk 213)) = true := by decide +kernel
theorem ip_dk_214_0 : (ip_cT_214_0.all (ip_chk 214)) = true := by decide +kernel
theorem ip_dk_214_1 : (ip_cT_214_1.all (ip_chk 214)) = true := by decide +kernel
theorem ip_dk_215_0 : (ip_cT_215_0.all (ip_chk 215)) = true := by decide +kernel
theorem ip_dk_215_1 : (ip_cT_215_1.all (ip_chk 215)) = true := by decide +kernel
theorem ip_dk_216_0 : (ip_cT_216_0.all (ip_chk 216)) = true := by decide +kernel
theorem ip_dk_217_0 : (ip_cT_217_0.all (ip_chk 217)) = true := by decide +kernel
theorem ip_dk_218_0 : (ip_cT_218_0.all (ip_chk 218)) = true := by decide +kernel
theorem ip_dk_218_1 : (ip_cT_218_1.all (ip_chk 218)) = true := by decide +kernel
theorem ip_dk_219_0 : (ip_cT_219_0.all (ip_chk 219)) = true := by decide +kernel
theorem ip_dk_219_1 : (ip_cT_219_1.all (ip_chk 219)) = true := by decide +kernel
theorem ip_dk_220_0 : (ip_cT_220_0.all (ip_chk 220)) = true := by decide +kernel
theorem ip_dk_221_0 : (ip_cT_221_0.all (ip_chk 221)) = true := by decide +kernel
theorem ip_dk_221_1 : (ip_cT_221_1.all (ip_chk 221)) = true := by decide +kernel
theorem ip_dk_221_2 : (ip_cT_221_2.all (ip_chk 221)) = true := by decide +kernel
theorem ip_dk_222_0 : (ip_cT_222_0.all (ip_chk 222)) = true := by decide +kernel
theorem ip_dk_222_1 : (ip_cT_222_1.all (ip_chk 222)) = true := by decide +kernel
theorem ip_dk_223_0 : (ip_cT_223_0.all (ip_chk 223)) = true := by decide +kernel
theorem ip_dk_224_0 : (ip_cT_224_0.all (ip_chk 224)) = true := by decide +kernel
theorem ip_dk_224_1 : (ip_cT_224_1.all (ip_chk 224)) = true := by decide +kernel
theorem ip_dk_225_0 : (ip_cT_225_0.all (ip_chk 225)) = true := by decide +kernel
theorem ip_dk_225_1 : (ip_cT_225_1.all (ip_chk 225)) = true := by decide +kernel
theorem ip_dk_226_0 : (ip_cT_226_0.all (ip_chk 226)) = true := by decide +kernel
theorem ip_dk_227_0 : (ip_cT_227_0.all (ip_chk 227)) = true := by decide +kernel
theorem ip_dk_227_1 : (ip_cT_227_1.all (ip_chk 227)) = true := by decide +kernel
theorem ip_dk_227_2 : (ip_cT_227_2.all (ip_chk 227)) = true := by decide +kernel
theorem ip_dk_228_0 : (ip_cT_228_0.all (ip_chk 228)) = true := by decide +kernel
theorem ip_dk_228_1 : (ip_cT_228_1.all (ip_chk 228)) = true := by decide +kernel
theorem ip_dk_228_2 : (ip_cT_228_2.all (ip_chk 228)) = true := by decide +kernel
theorem ip_dk_229_0 : (ip_cT_229_0.all (ip_chk 229)) = true := by decide +kernel
theorem ip_dk_230_0 : (ip_cT_230_0.all (ip_chk 230)) = true := by decide +kernel
theorem ip_dk_231_0 : (ip_cT_231_0.all (ip_chk 231)) = true := by decide +kernel
theorem ip_dk_232_0 : (ip_cT_232_0.all (ip_chk 232)) = true := by decide +kernel
theorem ip_dk_233_0 : (ip_cT_233_0.all (ip_chk 233)) = true := by decide +kernel
theorem ip_dk_234_0 : (ip_cT_234_0.all (ip_chk 234)) = true := by decide +kernel
theorem ip_dk_235_0 : (ip_cT_235_0.all (ip_chk 235)) = true := by decide +kernel
theorem ip_dk_235_1 : (ip_cT_235_1.all (ip_chk 235)) = true := by decide +kernel
theorem ip_dk_235_2 : (ip_cT_235_2.all (ip_chk 235)) = true := by decide +kernel
theorem ip_dk_236_0 : (ip_cT_236_0.all (ip_chk 236)) = true := by decide +kernel
theorem ip_dk_237_0 : (ip_cT_237_0.all (ip_chk 237)) = true := by decide +kernel
theorem ip_dk_238_0 : (ip_cT_238_0.all (ip_chk 238)) = true := by decide +kernel
theorem ip_dk_239_0 : (ip_cT_239_0.all (ip_chk 239)) = true := by decide +kernel
theorem ip_dk_240_0 : (ip_cT_240_0.all (ip_chk 240)) = true := by decide +kernel
theorem ip_dk_241_0 : (ip_cT_241_0.all (ip_chk 241)) = true := by decide +kernel
theorem ip_dk_242_0 : (ip_cT_242_0.all (ip_chk 242)) = true := by decide +kernel
theorem ip_dk_243_0 : (ip_cT_243_0.all (ip_chk 243)) = true := by decide +kernel
theorem ip_dk_244_0 : (ip_cT_244_0.all (ip_chk 244)) = true := by decide +kernel
theorem ip_dj_0 : (ip_cT_0.all (ip_chk 0)) = true := by simp only [ip_cT_0, List.all_append, ip_dk_0_0, ip_dk_0_1, ip_dk_0_2, ip_dk_0_3, ip_dk_0_4, ip_dk_0_5, ip_dk_0_6, ip_dk_0_7, ip_dk_0_8, ip_dk_0_9, ip_dk_0_10, ip_dk_0_11, ip_dk_0_12, ip_dk_0_13, ip_dk_0_14, Bool.and_self]
theorem ip_dj_1 : (ip_cT_1.all (ip_chk 1)) = true := ip_dk_1_0
theorem ip_dj_2 : (ip_cT_2.all (ip_chk 2)) = true := ip_dk_2_0
theorem ip_dj_3 : (ip_cT_3.all (ip_chk 3)) = true := ip_dk_3_0
theorem ip_dj_4 : (ip_cT_4.all (ip_chk 4)) = true := ip_dk_4_0
theorem ip_dj_5 : (ip_cT_5.all (ip_chk 5)) = true := ip_dk_5_0
theorem ip_dj_6 : (ip_cT_6.all (ip_chk 6)) = true := ip_dk_6_0
theorem ip_dj_7 : (ip_cT_7.all (ip_chk 7)) = true := ip_dk_7_0
theorem ip_dj_8 : (ip_cT_8.all (ip_chk 8)) = true := ip_dk_8_0
theorem ip_dj_9 : (ip_cT_9.all (ip_chk 9)) = true := by simp only [ip_cT_9, List.all_append, ip_dk_9_0, ip_dk_9_1, Bool.and_self]
theorem ip_dj_10 : (ip_cT_10.all (ip_chk 10)) = true := ip_dk_10_0
theorem ip_dj_11 : (ip_cT_11.all (ip_chk 11)) = true := ip_dk_11_0
theorem ip_dj_12 : (ip_cT_12.all (ip_chk 12)) = true := by simp only [ip_cT_12, List.all_append, ip_dk_12_0, ip_dk_12_1, Bool.and_self]
theorem ip_dj_13 : (ip_cT_13.all (ip_chk 13)) = true := ip_dk_13_0
theorem ip_dj_14 : (ip_cT_14.all (ip_chk 14)) = true := ip_dk_14_0
theorem ip_dj_15 : (ip_cT_15.all (ip_chk 15)) = true := ip_dk_15_0
theorem ip_dj_16 : (ip_cT_16.all (ip_chk 16)) = true := ip_dk_16_0
theorem ip_dj_17 : (ip_cT_17.all (ip_chk 17)) = true := ip_dk_17_0
theorem ip_dj_18 : (ip_cT_18.all (ip_chk 18)) = true := ip_dk_18_0
theorem ip_dj_19 : (ip_cT_19.all (ip_chk 19)) = true := ip_dk_19_0
theorem ip_dj_20 : (ip_cT_20.all (ip_chk 20)) = true := ip_dk_20_0
theorem ip_dj_21 : (ip_cT_21.all (ip_chk 21)) = true := ip_dk_21_0
theorem ip_dj_22 : (ip_cT_22.all (ip_chk 22)) = true := by simp only [ip_cT_22, List.all_append, ip_dk_22_0, ip_dk_22_1, Bool.and_self]
theorem ip_dj_23 : (ip_cT_23.all (ip_chk 23)) = true := by simp only [ip_cT_23, List.all_append, ip_dk_23_0, ip_dk_23_1, Bool.and_self]
theorem ip_dj_24 : (ip_cT_24.all (ip_chk 24)) = true := ip_dk_24_0
theorem ip_dj_25 : (ip_cT_25.all (ip_chk 25)) = true := by simp only [ip_cT_25, List.all_append, ip_dk_25_0, ip_dk_25_1, Bool.and_self]
theorem ip_dj_26 : (ip_cT_26.all (ip_chk 26)) = true := by simp only [ip_cT_26, List.all_append, ip_dk_26_0, ip_dk_26_1, Bool.and_self]
theorem ip_dj_27 : (ip_cT_27.all (ip_chk 27)) = true := ip_dk_27_0
theorem ip_dj_28 : (ip_cT_28.all (ip_chk 28)) = true := ip_dk_28_0
theorem ip_dj_29 : (ip_cT_29.all (ip_chk 29)) = true := ip_dk_29_0
theorem ip_dj_30 : (ip_cT_30.all (ip_chk 30)) = true := ip_dk_30_0
theorem ip_dj_31 : (ip_cT_31.all (ip_chk 31)) = true := ip_dk_31_0
theorem ip_dj_32 : (ip_cT_32.all (ip_chk 32)) = true := ip_dk_32_0
theorem ip_dj_33 : (ip_cT_33.all (ip_chk 33)) = true := ip_dk_33_0
theorem ip_dj_34 : (ip_cT_34.all (ip_chk 34)) = true := ip_dk_34_0
theorem ip_dj_35 : (ip_cT_35.all (ip_chk 35)) = true := ip_dk_35_0
theorem ip_dj_36 : (ip_cT_36.all (ip_chk 36)) = true := by simp only [ip_cT_36, List.all_append, ip_dk_36_0, ip_dk_36_1, Bool.and_self]
theorem ip_dj_37 : (ip_cT_37.all (ip_chk 37)) = true := ip_dk_37_0
theorem ip_dj_38 : (ip_cT_38.all (ip_chk 38)) = true := by simp only [ip_cT_38, List.all_append, ip_dk_38_0, ip_dk_38_1, Bool.and_self]
theorem ip_dj_39 : (ip_cT_39.all (ip_chk 39)) = true := by simp only [ip_cT_39, List.all_append, ip_dk_39_0, ip_dk_39_1, Bool.and_self]
theorem ip_dj_40 : (ip_cT_40.all (ip_chk 40)) = true := by simp only [ip_cT_40, List.all_append, ip_dk_40_0, ip_dk_40_1, Bool.and_self]
theorem ip_dj_41 : (ip_cT_41.all (ip_chk 41)) = true := ip_dk_41_0
theorem ip_dj_42 : (ip_cT_42.all (ip_chk 42)) = true := ip_dk_42_0
theorem ip_dj_43 : (ip_cT_43.all (ip_chk 43)) = true := ip_dk_43_0
theorem ip_dj_44 : (ip_cT_44.all (ip_chk 44)) = true := ip_dk_44_0
theorem ip_dj_45 : (ip_cT_45.all (ip_chk 45)) = true := ip_dk_45_0
theorem ip_dj_46 : (ip_cT_46.all (ip_chk 46)) = true := ip_dk_46_0
theorem ip_dj_47 : (ip_cT_47.all (ip_chk 47)) = true := ip_dk_47_0
theorem ip_dj_48 : (ip_cT_48.all (ip_chk 48)) = true := ip_dk_48_0
theorem ip_dj_49 : (ip_cT_49.all (ip_chk 49)) = true := ip_dk_49_0
theorem ip_dj_50 : (ip_cT_50.all (ip_chk 50)) = true := ip_dk_50_0
theorem ip_dj_51 : (ip_cT_51.all (ip_chk 51)) = true := ip_dk_51_0
theorem ip_dj_52 : (ip_cT_52.all (ip_chk 52)) = true := ip_dk_52_0
theorem ip_dj_53 : (ip_cT_53.all (ip_chk 53)) = true := by simp only [ip_cT_53, List.all_append, ip_dk_53_0, ip_dk_53_1, Bool.and_self]
theorem ip_dj_54 : (ip_cT_54.all (ip_chk 54)) = true := ip_dk_54_0
theorem ip_dj_55 : (ip_cT_55.all (ip_chk 55)) = true := ip_dk_55_0
theorem ip_dj_56 : (ip_cT_56.all (ip_chk 56)) = true := ip_dk_56_0
theorem ip_dj_57 : (ip_cT_57.all (ip_chk 57)) = true := ip_dk_57_0
theorem ip_dj_58 : (ip_cT_58.all (ip_chk 58)) = true := by simp only [ip_cT_58, List.all_append, ip_dk_58_0, ip_dk_58_1, Bool.and_self]
theorem ip_dj_59 : (ip_cT_59.all (ip_chk 59)) = true := by simp only [ip_cT_59, List.all_append, ip_dk_59_0, ip_dk_59_1, ip_dk_59_2, Bool.and_self]
theorem ip_dj_60 : (ip_cT_60.all (ip_chk 60)) = true := by simp only [ip_cT_60, List.all_append, ip_dk_60_0, ip_dk_60_1, Bool.and_self]
theorem ip_dj_61 : (ip_cT_61.all (ip_chk 61)) = true := ip_dk_61_0
theorem ip_dj_62 : (ip_cT_62.all (ip_chk 62)) = true := ip_dk_62_0
theorem ip_dj_63 : (ip_cT_63.all (ip_chk 63)) = true := ip_dk_63_0
theorem ip_dj_64 : (ip_cT_64.all (ip_chk 64)) = true := ip_dk_64_0
theorem ip_dj_65 : (ip_cT_65.all (ip_chk 65)) = true := ip_dk_65_0
theorem ip_dj_66 : (ip_cT_66.all (ip_chk 66)) = true := ip_dk_66_0
theorem ip_dj_67 : (ip_cT_67.all (ip_chk 67)) = true := ip_dk_67_0
theorem ip_dj_68 : (ip_cT_68.all (ip_chk 68)) = true := ip_dk_68_0
theorem ip_dj_69 : (ip_cT_69.all (ip_chk 69)) = true := ip_dk_69_0
theorem ip_dj_70 : (ip_cT_70.all (ip_chk 70)) = true := ip_dk_70_0
theorem ip_dj_71 : (ip_cT_71.all (ip_chk 71)) = true := ip_dk_71_0
theorem ip_dj_72 : (ip_cT_72.all (ip_chk 72)) = true := ip_dk_72_0
theorem ip_dj_73 : (ip_cT_73.all (ip_chk 73)) = true := ip_dk_73_0
theorem ip_dj_74 : (ip_cT_74.all (ip_chk 74)) = true := ip_dk_74_0
theorem ip_dj_75 : (ip_cT_75.all (ip_chk 75)) = true := ip_dk_75_0
theorem ip_dj_76 : (ip_cT_76.all (ip_chk 76)) = true := ip_dk_76_0
theorem ip_dj_77 : (ip_cT_77.all (ip_chk 77)) = true := ip_dk_77_0
theorem ip_dj_78 : (ip_cT_78.all (ip_chk 78)) = true := ip_dk_78_0
theorem ip_dj_79 : (ip_cT_79.all (ip_chk 79)) = true := ip_dk_79_0
theorem ip_dj_80 : (ip_cT_80.all (ip_chk 80)) = true := ip_dk_80_0
theorem ip_dj_81 : (ip_cT_81.all (ip_chk 81)) = true := ip_dk_81_0
theorem ip_dj_82 : (ip_cT_82.all (ip_chk 82)) = true := ip_dk_82_0
theorem ip_dj_83 : (ip_cT_83.all (ip_chk 83)) = true := ip_dk_83_0
theorem ip_dj_84 : (ip_cT_84.all (ip_chk 84)) = true := ip_dk_84_0
theorem ip_dj_85 : (ip_cT_85.all (ip_chk 85)) = true := ip_dk_85_0
theorem ip_dj_86 : (ip_cT_86.all (ip_chk 86)) = true := ip_dk_86_0
theorem ip_dj_87 : (ip_cT_87.all (ip_chk 87)) = true := ip_dk_87_0
theorem ip_dj_88 : (ip_cT_88.all (ip_chk 88)) = true := ip_dk_88_0
theorem ip_dj_89 : (ip_cT_89.all (ip_chk 89)) = true := ip_dk_89_0
theorem ip_dj_90 : (ip_cT_90.all (ip_chk 90)) = true := ip_dk_90_0
theorem ip_dj_91 : (ip_cT_91.all (ip_chk 91)) = true := by simp only [ip_cT_91, List.all_append, ip_dk_91_0, ip_dk_91_1, Bool.and_self]
theorem ip_dj_92 : (ip_cT_92.all (ip_chk 92)) = true := ip_dk_92_0
theorem ip_dj_93 : (ip_cT_93.all (ip_chk 93)) = true := ip_dk_93_0
theorem ip_dj_94 : (ip_cT_94.all (ip_chk 94)) = true := ip_dk_94_0
theorem ip_dj_95 : (ip_cT_95.all (ip_chk 95)) = true := ip_dk_95_0
theorem ip_dj_96 : (ip_cT_96.all (ip_chk 96)) = true := ip_dk_96_0
theorem ip_dj_97 : (ip_cT_97.all (ip_chk 97)) = true := ip_dk_97_0
theorem ip_dj_98 : (ip_cT_98.all (ip_chk 98)) = true := ip_dk_98_0
theorem ip_dj_99 : (ip_cT_99.all (ip_chk 99)) = true := ip_dk_99_0
theorem ip_dj_100 : (ip_cT_100.all (ip_chk 100)) = true := ip_dk_100_0
theorem ip_dj_101 : (ip_cT_101.all (ip_chk 101)) = true := ip_dk_101_0
theorem ip_dj_102 : (ip_cT_102.all (ip_chk 102)) = true := ip_dk_102_0
theorem ip_dj_103 : (ip_cT_103.all (ip_chk 103)) = true := ip_dk_103_0
theorem ip_dj_104 : (ip_cT_104.all (ip_chk 104)) = true := ip_dk_104_0
theorem ip_dj_105 : (ip_cT_105.all (ip_chk 105)) = true := ip_dk_105_0
theorem ip_dj_106 : (ip_cT_106.all (ip_chk 106)) = true := ip_dk_106_0
theorem ip_dj_107 : (ip_cT_107.all (ip_chk 107)) = true := ip_dk_107_0
theorem ip_dj_108 : (ip_cT_108.all (ip_chk 108)) = true := ip_dk_108_0
theorem ip_dj_109 : (ip_cT_109.all (ip_chk 109)) = true := ip_dk_109_0
theorem ip_dj_110 : (ip_cT_110.all (ip_chk 110)) = true := ip_dk_110_0
theorem ip_dj_111 : (ip_cT_111.all (ip_chk 111)) = true := ip_dk_111_0
theorem ip_dj_112 : (ip_cT_112.all (ip_chk 112)) = true := ip_dk_112_0
theorem ip_dj_113 : (ip_cT_113.all (ip_chk 113)) = true := ip_dk_113_0
theorem ip_dj_114 : (ip_cT_114.all (ip_chk 114)) = true := ip_dk_114_0
theorem ip_dj_115 : (ip_cT_115.all (ip_chk 115)) = true := ip_dk_115_0
theorem ip_dj_116 : (ip_cT_116.all (ip_chk 116)) = true := ip_dk_116_0
theorem ip_dj_117 : (ip_cT_117.all (ip_chk 117)) = true := ip_dk_117_0
theorem ip_dj_118 : (ip_cT_118.all (ip_chk 118)) = true := ip_dk_118_0
theorem ip_dj_119 : (ip_cT_119.all (ip_chk 119)) = true := ip_dk_119_0
theorem ip_dj_120 : (ip_cT_120.all (ip_chk 120)) = true := ip_dk_120_0
theorem ip_dj_121 : (ip_cT_121.all (ip_chk 121)) = true := by simp only [ip_cT_121, List.all_append, ip_dk_121_0, ip_dk_121_1, Bool.and_self]
theorem ip_dj_122 : (ip_cT_122.all (ip_chk 122)) = true := ip_dk_122_0
theorem ip_dj_123 : (ip_cT_123.all (ip_chk 123)) = true := ip_dk_123_0
theorem ip_dj_124 : (ip_cT_124.all (ip_chk 124)) = true := ip_dk_124_0
theorem ip_dj_125 : (ip_cT_125.all (ip_chk 125)) = true := ip_dk_125_0
theorem ip_dj_126 : (ip_cT_126.all (ip_chk 126)) = true := ip_dk_126_0
theorem ip_dj_127 : (ip_cT_127.all (ip_chk 127)) = true := ip_dk_127_0
theorem ip_dj_128 : (ip_cT_128.all (ip_chk 128)) = true := by simp only [ip_cT_128, List.all_append, ip_dk_128_0, ip_dk_128_1, Bool.and_self]
theorem ip_dj_129 : (ip_cT_129.all (ip_chk 129)) = true := ip_dk_129_0
theorem ip_dj_130 : (ip_cT_130.all (ip_chk 130)) = true := ip_dk_130_0
theorem ip_dj_131 : (ip_cT_131.all (ip_chk 131)) = true := ip_dk_131_0
theorem ip_dj_132 : (ip_cT_132.all (ip_chk 132)) = true := ip_dk_132_0
theorem ip_dj_133 : (ip_cT_133.all (ip_chk 133)) = true := ip_dk_133_0
theorem ip_dj_134 : (ip_cT_134.all (ip_chk 134)) = true := ip_dk_134_0
theorem ip_dj_135 : (ip_cT_135.all (ip_chk 135)) = true := ip_dk_135_0
theorem ip_dj_136 : (ip_cT_136.all (ip_chk 136)) = true := ip_dk_136_0
theorem ip_dj_137 : (ip_cT_137.all (ip_chk 137)) = true := by simp only [ip_cT_137, List.all_append, ip_dk_137_0, ip_dk_137_1, Bool.and_self]
theorem ip_dj_138 : (ip_cT_138.all (ip_chk 138)) = true := ip_dk_138_0
theorem ip_dj_139 : (ip_cT_139.all (ip_chk 139)) = true := ip_dk_139_0
theorem ip_dj_140 : (ip_cT_140.all (ip_chk 140)) = true := ip_dk_140_0
theorem ip_dj_141 : (ip_cT_141.all (ip_chk 141)) = true := ip_dk_141_0
theorem ip_dj_142 : (ip_cT_142.all (ip_chk 142)) = true := ip_dk_142_0
theorem ip_dj_143 : (ip_cT_143.all (ip_chk 143)) = true := ip_dk_143_0
theorem ip_dj_144 : (ip_cT_144.all (ip_chk 144)) = true := ip_dk_144_0
theorem ip_dj_145 : (ip_cT_145.all (ip_chk 145)) = true := ip_dk_145_0
theorem ip_dj_146 : (ip_cT_146.all (ip_chk 146)) = true := ip_dk_146_0
theorem ip_dj_147 : (ip_cT_147.all (ip_chk 147)) = true := ip_dk_147_0
theorem ip_dj_148 : (ip_cT_148.all (ip_chk 148)) = true := by simp only [ip_cT_148, List.all_append, ip_dk_148_0, ip_dk_148_1, Bool.and_self]
theorem ip_dj_149 : (ip_cT_149.all (ip_chk 149)) = true := by simp only [ip_cT_149, List.all_append, ip_dk_149_0, ip_dk_149_1, Bool.and_self]
theorem ip_dj_150 : (ip_cT_150.all (ip_chk 150)) = true := ip_dk_150_0
theorem ip_dj_151 : (ip_cT_151.all (ip_chk 151)) = true := ip_dk_151_0
theorem ip_dj_152 : (ip_cT_152.all (ip_chk 152)) = true := ip_dk_152_0
theorem ip_dj_153 : (ip_cT_153.all (ip_chk 153)) = true := ip_dk_153_0
theorem ip_dj_154 : (ip_cT_154.all (ip_chk 154)) = true := ip_dk_154_0
theorem ip_dj_155 : (ip_cT_155.all (ip_chk 155)) = true := ip_dk_155_0
theorem ip_dj_156 : (ip_cT_156.all (ip_chk 156)) = true := ip_dk_156_0
theorem ip_dj_157 : (ip_cT_157.all (ip_chk 157)) = true := ip_dk_157_0
theorem ip_dj_158 : (ip_cT_158.all (ip_chk 158)) = true := ip_dk_158_0
theorem ip_dj_159 : (ip_cT_159.all (ip_chk 159)) = true := ip_dk_159_0
theorem ip_dj_160 : (ip_cT_160.all (ip_chk 160)) = true := ip_dk_160_0
theorem ip_dj_161 : (ip_cT_161.all (ip_chk 161)) = true := by simp only [ip_cT_161, List.all_append, ip_dk_161_0, ip_dk_161_1, ip_dk_161_2, ip_dk_161_3, Bool.and_self]
theorem ip_dj_162 : (ip_cT_162.all (ip_chk 162)) = true := by simp only [ip_cT_162, List.all_append, ip_dk_162_0, ip_dk_162_1, Bool.and_self]
theorem ip_dj_163 : (ip_cT_163.all (ip_chk 163)) = true := ip_dk_163_0
theorem ip_dj_164 : (ip_cT_164.all (ip_chk 164)) = true := ip_dk_164_0
theorem ip_dj_165 : (ip_cT_165.all (ip_chk 165)) = true := ip_dk_165_0
theorem ip_dj_166 : (ip_cT_166.all (ip_chk 166)) = true := ip_dk_166_0
theorem ip_dj_167 : (ip_cT_167.all (ip_chk 167)) = true := ip_dk_167_0
theorem ip_dj_168 : (ip_cT_168.all (ip_chk 168)) = true := ip_dk_168_0
theorem ip_dj_169 : (ip_cT_169.all (ip_chk 169)) = true := ip_dk_169_0
theorem ip_dj_170 : (ip_cT_170.all (ip_chk 170)) = true := ip_dk_170_0
theorem ip_dj_171 : (ip_cT_171.all (ip_chk 171)) = true := ip_dk_171_0
theorem ip_dj_172 : (ip_cT_172.all (ip_chk 172)) = true := ip_dk_172_0
theorem ip_dj_173 : (ip_cT_173.all (ip_chk 173)) = true := ip_dk_173_0
theorem ip_dj_174 : (ip_cT_174.all (ip_chk 174)) = true := ip_dk_174_0
theorem ip_dj_175 : (ip_cT_175.all (ip_chk 175)) = true := ip_dk_175_0
theorem ip_dj_176 : (ip_cT_176.all (ip_chk 176)) = true := ip_dk_176_0
theorem ip_dj_177 : (ip_cT_177.all (ip_chk 177)) = true := by simp only [ip_cT_177, List.all_append, ip_dk_177_0, ip_dk_177_1, Bool.and_self]
theorem ip_dj_178 : (ip_cT_178.all (ip_chk 178)) = true := by simp only [ip_cT_178, List.all_append, ip_dk_178_0, ip_dk_178_1, Bool.and_self]
theorem ip_dj_179 : (ip_cT_179.all (ip_chk 179)) = true := ip_dk_179_0
theorem ip_dj_180 : (ip_cT_180.all (ip_chk 180)) = true := ip_dk_180_0
theorem ip_dj_181 : (ip_cT_181.all (ip_chk 181)) = true := ip_dk_181_0
theorem ip_dj_182 : (ip_cT_182.all (ip_chk 182)) = true := ip_dk_182_0
theorem ip_dj_183 : (ip_cT_183.all (ip_chk 183)) = true := ip_dk_183_0
theorem ip_dj_184 : (ip_cT_184.all (ip_chk 184)) = true := ip_dk_184_0
theorem ip_dj_185 : (ip_cT_185.all (ip_chk 185)) = true := ip_dk_185_0
theorem ip_dj_186 : (ip_cT_186.all (ip_chk 186)) = true := ip_dk_186_0
theorem ip_dj_187 : (ip_cT_187.all (ip_chk 187)) = true := by simp only [ip_cT_187, List.all_append, ip_dk_187_0, ip_dk_187_1, Bool.and_self]
theorem ip_dj_188 : (ip_cT_188.all (ip_chk 188)) = true := by simp only [ip_cT_188, List.all_append, ip_dk_188_0, ip_dk_188_1, Bool.and_self]
theorem ip_dj_189 : (ip_cT_189.all (ip_chk 189)) = true := ip_dk_189_0
theorem ip_dj_190 : (ip_cT_190.all (ip_chk 190)) = true := ip_dk_190_0
theorem ip_dj_191 : (ip_cT_191.all (ip_chk 191)) = true := ip_dk_191_0
theorem ip_dj_192 : (ip_cT_192.all (ip_chk 192)) = true := ip_dk_192_0
theorem ip_dj_193 : (ip_cT_193.all (ip_chk 193)) = true := ip_dk_193_0
theorem ip_dj_194 : (ip_cT_194.all (ip_chk 194)) = true := ip_dk_194_0
theorem ip_dj_195 : (ip_cT_195.all (ip_chk 195)) = true := ip_dk_195_0
theorem ip_dj_196 : (ip_cT_196.all (ip_chk 196)) = true := ip_dk_196_0
theorem ip_dj_197 : (ip_cT_197.all (ip_chk 197)) = true := ip_dk_197_0
theorem ip_dj_198 : (ip_cT_198.all (ip_chk 198)) = true := ip_dk_198_0
theorem ip_dj_199 : (ip_cT_199.all (ip_chk 199)) = true := ip_dk_199_0
theorem ip_dj_200 : (ip_cT_200.all (ip_chk 200)) = true := by simp only [ip_cT_200, List.all_append, ip_dk_200_0, ip_dk_200_1, Bool.and_self]
theorem ip_dj_201 : (ip_cT_201.all (ip_chk 201)) = true := ip_dk_201_0
theorem ip_dj_202 : (ip_cT_202.all (ip_chk 202)) = true := by simp only [ip_cT_202, List.all_append, ip_dk_202_0, ip_dk_202_1, ip_dk_202_2, Bool.and_self]
theorem ip_dj_203 : (ip_cT_203.all (ip_chk 203)) = true := ip_dk_203_0
theorem ip_dj_204 : (ip_cT_204.all (ip_chk 204)) = true := ip_dk_204_0
theorem ip_dj_205 : (ip_cT_205.all (ip_chk 205)) = true := ip_dk_205_0
theorem ip_dj_206 : (ip_cT_206.all (ip_chk 206)) = true := ip_dk_206_0
theorem ip_dj_207 : (ip_cT_207.all (ip_chk 207)) = true := ip_dk_207_0
theorem ip_dj_208 : (ip_cT_208.all (ip_chk 208)) = true := by simp only [ip_cT_208, List.all_append, ip_dk_208_0, ip_dk_208_1, Bool.and_self]
theorem ip_dj_209 : (ip_cT_209.all (ip_chk 209)) = true := by simp only [ip_cT_209, List.all_append, ip_dk_209_0, ip_dk_209_1, Bool.and_self]
theorem ip_dj_210 : (ip_cT_210.all (ip_chk 210)) = true := ip_dk_210_0
theorem ip_dj_211 : (ip_cT_211.all (ip_chk 211)) = true := by simp only [ip_cT_211, List.all_append, ip_dk_211_0, ip_dk_211_1, Bool.and_self]
theorem ip_dj_212 : (ip_cT_212.all (ip_chk 212)) = true := by simp only [ip_cT_212, List.all_append, ip_dk_212_0, ip_dk_212_1, Bool.and_self]
theorem ip_dj_213 : (ip_cT_213.all (ip_chk 213)) = true := ip_dk_213_0
theorem ip_dj_214 : (ip_cT_214.all (ip_chk 214)) = true := by simp only [ip_cT_214, List.all_append, ip_dk_214_0, ip_dk_214_1, Bool.and_self]
theorem ip_dj_215 : (ip_cT_215.all (ip_chk 215)) = true := by simp only [ip_cT_215, List.all_append, ip_dk_215_0, ip_dk_215_1, Bool.and_self]
theorem ip_dj_216 : (ip_cT_216.all (ip_chk 216)) = true := ip_dk_216_0
theorem ip_dj_217 : (ip_cT_217.all (ip_chk 217)) = true := ip_dk_217_0
theorem ip_dj_218 : (ip_cT_218.all (ip_chk 218)) = true := by simp only [ip_cT_218, List.all_append, ip_dk_218_0, ip_dk_218_1, Bool.and_self]
theorem ip_dj_219 : (ip_cT_219.all (ip_chk 219)) = true := by simp only [ip_cT_219, List.all_append, ip_dk_219_0, ip_dk_219_1, Bool.and_self]
theorem ip_dj_220 : (ip_cT_220.all (ip_chk 220)) = true := ip_dk_220_0
theorem ip_dj_221 : (ip_cT_221.all (ip_chk 221)) = true := by simp only [ip_cT_221, List.all_append, ip_dk_221_0, ip_dk_221_1, ip_dk_221_2, Bool.and_self]
theorem ip_dj_222 : (ip_cT_222.all (ip_chk 222)) = true := by simp only [ip_cT_222, List.all_append, ip_dk_222_0, ip_dk_222_1, Bool.and_self]
theorem ip_dj_223 : (ip_cT_223.all (ip_chk 223)) = true := ip_dk_223_0
theorem ip_dj_224 : (ip_cT_224.all (ip_chk 224)) = true := by simp only [ip_cT_224, List.all_append, ip_dk_224_0, ip_dk_224_1, Bool.and_self]
theorem ip_dj_225 : (ip_cT_225.all (ip_chk 225)) = true := by simp only [ip_cT_225, List.all_append, ip_dk_225_0, ip_dk_225_1, Bool.and_self]
theorem ip_dj_226 : (ip_cT_226.all (ip_chk 226)) = true := ip_dk_226_0
theorem ip_dj_227 : (ip_cT_227.all (ip_chk 227)) = true := by simp only [ip_cT_227, List.all_append, ip_dk_227_0, ip_dk_227_1, ip_dk_227_2, Bool.and_self]
theorem ip_dj_228 : (ip_cT_228.all (ip_chk 228)) = true := by simp only [ip_cT_228, List.all_append, ip_dk_228_0, ip_dk_228_1, ip_dk_228_2, Bool.and_self]
theorem ip_dj_229 : (ip_cT_229.all (ip_chk 229)) = true := ip_dk_229_0
theorem ip_dj_230 : (ip_cT_230.all (ip_chk 230)) = true := ip_dk_230_0
theorem ip_dj_231 : (ip_cT_231.all (ip_chk 231)) = true := ip_dk_231_0
theorem ip_dj_232 : (ip_cT_232.all (ip_chk 232)) = true := ip_dk_232_0
theorem ip_dj_233 : (ip_cT_233.all (ip_chk 233)) = true := ip_dk_233_0
theorem ip_dj_234 : (ip_cT_234.all (ip_chk 234)) = true := ip_dk_234_0
theorem ip_dj_235 : (ip_cT_235.all (ip_chk 235)) = true := by simp only [ip_cT_235, List.all_append, ip_dk_235_0, ip_dk_235_1, ip_dk_235_2, Bool.and_self]
theorem ip_dj_236 : (ip_cT_236.all (ip_chk 236)) = true := ip_dk_236_0
theorem ip_dj_237 : (ip_cT_237.all (ip_chk 237)) = true := ip_dk_237_0
theorem ip_dj_238 : (ip_cT_238.all (ip_chk 238)) = true := ip_dk_238_0
theorem ip_dj_239 : (ip_cT_239.all (ip_chk 239)) = true := ip_dk_239_0
theorem ip_dj_240 : (ip_cT_240.all (ip_chk 240)) = true := ip_dk_240_0
theorem ip_dj_241 : (ip_cT_241.all (ip_chk 241)) = true := ip_dk_241_0
theorem ip_dj_242 : (ip_cT_242.all (ip_chk 242)) = true := ip_dk_242_0
theorem ip_dj_243 : (ip_cT_243.all (ip_chk 243)) = true := ip_dk_243_0
theorem ip_dj_244 : (ip_cT_244.all (ip_chk 244)) = true := ip_dk_244_0
def ip_cTz : List (Nat × List (Nat × Instr × Nat × Nat)) := [(0, ip_cT_0), (1, ip_cT_1), (2, ip_cT_2), (3, ip_cT_3), (4, ip_cT_4), (5, ip_cT_5), (6, ip_cT_6), (7, ip_cT_7), (8, ip_cT_8), (9, ip_cT_9), (10, ip_cT_10), (11, ip_cT_11), (12, ip_cT_12), (13, ip_cT_13), (14, ip_cT_14), (15, ip_cT_15), (16, ip_cT_16), (17, ip_cT_17), (18, ip_cT_18), (19, ip_cT_19), (20, ip_cT_20), (21, ip_cT_21), (22, ip_cT_22), (23, ip_cT_23), (24, ip_cT_24), (25, ip_cT_25), (26, ip_cT_26), (27, ip_cT_27), (28, ip_cT_28), (29, ip_cT_29), (30, ip_cT_30), (31, ip_cT_31), (32, ip_cT_32), (33, ip_cT_33), (34, ip_cT_34), (35, ip_cT_35), (36, ip_cT_36), (37, ip_cT_37), (38, ip_cT_38), (39, ip_cT_39), (40, ip_cT_40), (41, ip_cT_41), (42, ip_cT_42), (43, ip_cT_43), (44, ip_cT_44), (45, ip_cT_45), (46, ip_cT_46), (47, ip_cT_47), (48, ip_cT_48), (49, ip_cT_49), (50, ip_cT_50), (51, ip_cT_51), (52, ip_cT_52), (53, ip_cT_53), (54, ip_cT_54), (55, ip_cT_55), (56, ip_cT_56), (57, ip_cT_57), (58, ip_cT_58), (59, ip_cT_59), (60, ip_cT_60), (61, ip_cT_61), (62, ip_cT_62), (63, ip_cT_63), (64, ip_cT_64), (65, ip_cT_65), (66, ip_cT_66), (67, ip_cT_67), (68, ip_cT_68), (69, ip_cT_69), (70, ip_cT_70), (71, ip_cT_71), (72, ip_cT_72), (73, ip_cT_73), (74, ip_cT_74), (75, ip_cT_75), (76, ip_cT_76), (77, ip_cT_77), (78, ip_cT_78), (79, ip_cT_79), (80, ip_cT_80), (81, ip_cT_81), (82, ip_cT_82), (83, ip_cT_83), (84, ip_cT_84), (85, ip_cT_85), (86, ip_cT_86), (87, ip_cT_87), (88, ip_cT_88), (89, ip_cT_89), (90, ip_cT_90), (91, ip_cT_91), (92, ip_cT_92), (93, ip_cT_93), (94, ip_cT_94), (95, ip_cT_95), (96, ip_cT_96), (97, ip_cT_97), (98, ip_cT_98), (99, ip_cT_99), (100, ip_cT_100), (101, ip_cT_101), (102, ip_cT_102), (103, ip_cT_103), (104, ip_cT_104), (105, ip_cT_105), (106, ip_cT_106), (107, ip_cT_107), (108, ip_cT_108), (109, ip_cT_109), (110, ip_cT_110), (111, ip_cT_111), (112, ip_cT_112), (113, ip_cT_113), (114, ip_cT_114), (115, ip_cT_115), (116, ip_cT_116), (117, ip_cT_117), (118, ip_cT_118), (119, ip_cT_119), (120, ip_cT_120), (121, ip_cT_121), (122, ip_cT_122), (123, ip_cT_123), (124, ip_cT_124), (125, ip_cT_125), (126, ip_cT_126), (127, ip_cT_127), (128, ip_cT_128), (129, ip_cT_129), (130, ip_cT_130), (131, ip_cT_131), (132, ip_cT_132), (133, ip_cT_133), (134, ip_cT_134), (135, ip_cT_135), (136, ip_cT_136), (137, ip_cT_137), (138, ip_cT_138), (139, ip_cT_139), (140, ip_cT_140), (141, ip_cT_141), (142, ip_cT_142), (143, ip_cT_143), (144, ip_cT_144), (145, ip_cT_145), (146, ip_cT_146), (147, ip_cT_147), (148, ip_cT_148), (149, ip_cT_149), (150, ip_cT_150), (151, ip_cT_151), (152, ip_cT_152), (153, ip_cT_153), (154, ip_cT_154), (155, ip_cT_155), (156, ip_cT_156), (157, ip_cT_157), (158, ip_cT_158), (159, ip_cT_159), (160, ip_cT_160), (161, ip_cT_161), (162, ip_cT_162), (163, ip_cT_163), (164, ip_cT_164), (165, ip_cT_165), (166, ip_cT_166), (167, ip_cT_167), (168, ip_cT_168), (169, ip_cT_169), (170, ip_cT_170), (171, ip_cT_171), (172, ip_cT_172), (173, ip_cT_173), (174, ip_cT_174), (175, ip_cT_175), (176, ip_cT_176), (177, ip_cT_177), (178, ip_cT_178), (179, ip_cT_179), (180, ip_cT_180), (181, ip_cT_181), (182, ip_cT_182), (183, ip_cT_183), (184, ip_cT_184), (185, ip_cT_185), (186, ip_cT_186), (187, ip_cT_187), (188, ip_cT_188), (189, ip_cT_189), (190, ip_cT_190), (191, ip_cT_191), (192, ip_cT_192), (193, ip_cT_193), (194, ip_cT_194), (195, ip_cT_195), (196, ip_cT_196), (197, ip_cT_197), (198, ip_cT_198), (199, ip_cT_199), (200, ip_cT_200), (201, ip_cT_201), (202, ip_cT_202), (203, ip_cT_203), (204, ip_cT_204), (205, ip_cT_205), (206, ip_cT_206), (207, ip_cT_207), (208, ip_cT_208), (209, ip_cT_209), (210, ip_cT_210), (211, ip_cT_211), (212, ip_cT_212), (213, ip_cT_213), (214, ip_cT_214), (215, ip_cT_215), (216, ip_cT_216), (217, ip_cT_217), (218, ip_cT_218), (219, ip_cT_219), (220, ip_cT_220), (221, ip_cT_221), (222, ip_cT_222), (223, ip_cT_223), (224, ip_cT_224), (225, ip_cT_225), (226, ip_cT_226), (227, ip_cT_227), (228, ip_cT_228), (229, ip_cT_229), (230, ip_cT_230), (231, ip_cT_231), (232, ip_cT_232), (233, ip_cT_233), (234, ip_cT_234), (235, ip_cT_235), (236, ip_cT_236), (237, ip_cT_237), (238, ip_cT_238), (239, ip_cT_239), (240, ip_cT_240), (241, ip_cT_241), (242, ip_cT_242), (243, ip_cT_243), (244, ip_cT_244)]
def ip_cTz_0 : List (Nat × List (Nat × Instr × Nat × Nat)) := [(0, ip_cT_0), (1, ip_cT_1), (2, ip_cT_2), (3, ip_cT_3), (4, ip_cT_4), (5, ip_cT_5), (6, ip_cT_6), (7, ip_cT_7), (8, ip_cT_8), (9, ip_cT_9), (10, ip_cT_10), (11, ip_cT_11), (12, ip_cT_12), (13, ip_cT_13), (14, ip_cT_14), (15, ip_cT_15)]
theorem ip_dz_0 : ∀ q ∈ ip_cTz_0, (q.2.all (ip_chk q.1)) = true := List.forall_mem_cons.mpr ⟨ip_dj_0, List.forall_mem_cons.mpr ⟨ip_dj_1, List.forall_mem_cons.mpr ⟨ip_dj_2, List.forall_mem_cons.mpr ⟨ip_dj_3, List.forall_mem_cons.mpr ⟨ip_dj_4, List.forall_mem_cons.mpr ⟨ip_dj_5, List.forall_mem_cons.mpr ⟨ip_dj_6, List.forall_mem_cons.mpr ⟨ip_dj_7, List.forall_mem_cons.mpr ⟨ip_dj_8, List.forall_mem_cons.mpr ⟨ip_dj_9, List.forall_mem_cons.mpr ⟨ip_dj_10, List.forall_mem_cons.mpr ⟨ip_dj_11, List.forall_mem_cons.mpr ⟨ip_dj_12, List.forall_mem_cons.mpr ⟨ip_dj_13, List.forall_mem_cons.mpr ⟨ip_dj_14, List.forall_mem_cons.mpr ⟨ip_dj_15, fun _ h => absurd h List.not_mem_nil⟩⟩⟩⟩⟩⟩⟩⟩⟩⟩⟩⟩⟩⟩⟩⟩
def ip_cTz_16 : List (Nat × List (Nat × Instr × Nat × Nat)) := [(16, ip_cT_16), (17, ip_cT_17), (18, ip_cT_18), (19, ip_cT_19), (20, ip_cT_20), (21, ip_cT_21), (22, ip_cT_22), (23, ip_cT_23), (24, ip_cT_24), (25, ip_cT_25), (26, ip_cT_26), (27, ip_cT_27), (28, ip_cT_28), (29, ip_cT_29), (30, ip_cT_30), (31, ip_cT_31)]
theorem ip_dz_16 : ∀ q ∈ ip_cTz_16, (q.2.all (ip_chk q.1)) = true := List.forall_mem_cons.mpr ⟨ip_dj_16, List.forall_mem_cons.mpr ⟨ip_dj_17, List.forall_mem_cons.mpr ⟨ip_dj_18, List.forall_mem_cons.mpr ⟨ip_dj_19, List.forall_mem_cons.mpr ⟨ip_dj_20, List.forall_mem_cons.mpr ⟨ip_dj_21, List.forall_mem_cons.mpr ⟨ip_dj_22, List.forall_mem_cons.mpr ⟨ip_dj_23, List.forall_mem_cons.mpr ⟨ip_dj_24, List.forall_mem_cons.mpr ⟨ip_dj_25, List.forall_mem_cons.mpr ⟨ip_dj_26, List.forall_mem_cons.mpr ⟨ip_dj_27, List.forall_mem_cons.mpr ⟨ip_dj_28, List.forall_mem_cons.mpr ⟨ip_dj_29, List.forall_mem_cons.mpr ⟨ip_dj_30, List.forall_mem_cons.mpr ⟨ip_dj_31, fun _ h => absurd h List.not_mem_nil⟩⟩⟩⟩⟩⟩⟩⟩⟩⟩⟩⟩⟩⟩⟩⟩
def ip_cTz_32 : List (Nat × List (Nat × Instr × Nat × Nat)) := [(32, ip_cT_32), (33, ip_cT_33), (34, ip_cT_34), (35, ip_cT_35), (36, ip_cT_36), (37, ip_cT_37), (38, ip_cT_38), (39, ip_cT_39), (40, ip_cT_40), (41, ip_cT_41), (42, ip_cT_42), (43, ip_cT_43), (44, ip_cT_44), (45, ip_cT_45), (46, ip_cT_46), (47, ip_cT_47)]
theorem ip_dz_32 : ∀ q ∈ ip_cTz_32, (q.2.all (ip_chk q.1)) = true := List.forall_mem_cons.mpr ⟨ip_dj_32, List.forall_mem_cons.mpr ⟨ip_dj_33, List.forall_mem_cons.mpr ⟨ip_dj_34, List.forall_mem_cons.mpr ⟨ip_dj_35, List.forall_mem_cons.mpr ⟨ip_dj_36, List.forall_mem_cons.mpr ⟨ip_dj_37, List.forall_mem_cons.mpr ⟨ip_dj_38, List.forall_mem_cons.mpr ⟨ip_dj_39, List.forall_mem_cons.mpr ⟨ip_dj_40, List.forall_mem_cons.mpr ⟨ip_dj_41, List.forall_mem_cons.mpr ⟨ip_dj_42, List.forall_mem_cons.mpr ⟨ip_dj_43, List.forall_mem_cons.mpr ⟨ip_dj_44, List.forall_mem_cons.mpr ⟨ip_dj_45, List.forall_mem_cons.mpr ⟨ip_dj_46, List.forall_mem_cons.mpr ⟨ip_dj_47, fun _ h => absurd h List.not_mem_nil⟩⟩⟩⟩⟩⟩⟩⟩⟩⟩⟩⟩⟩⟩⟩⟩
def ip_cTz_48 : List (Nat × List (Nat × Instr × Nat × Nat)) := [(48, ip_cT_48), (49, ip_cT_49), (50, ip_cT_50), (51, ip_cT_51), (52, ip_cT_52), (53, ip_cT_53), (54, ip_cT_54), (55, ip_cT_55), (56, ip_cT_56), (57, ip_cT_57), (58, ip_cT_58), (59, ip_cT_59), (60, ip_cT_60), (61, ip_cT_61), (62, ip_cT_62), (63, ip_cT_63)]
theorem ip_dz_48 : ∀ q ∈ ip_cTz_48, (q.2.all (ip_chk q.1)) = true := List.forall_mem_cons.mpr ⟨ip_dj_48, List.forall_mem_cons.mpr ⟨ip_dj_49, List.forall_mem_cons.mpr ⟨ip_dj_50, List.forall_mem_cons.mpr ⟨ip_dj_51, List.forall_mem_cons.mpr ⟨ip_dj_52, List.forall_mem_cons.mpr ⟨ip_dj_53, List.forall_mem_cons.mpr ⟨ip_dj_54, List.forall_mem_cons.mpr ⟨ip_dj_55, List.forall_mem_cons.mpr ⟨ip_dj_56, List.forall_mem_cons.mpr ⟨ip_dj_57, List.forall_mem_cons.mpr ⟨ip_dj_58, List.forall_mem_cons.mpr ⟨ip_dj_59, List.forall_mem_cons.mpr ⟨ip_dj_60, List.forall_mem_cons.mpr ⟨ip_dj_61, List.forall_mem_cons.mpr ⟨ip_dj_62, List.forall_mem_cons.mpr ⟨ip_dj_63, fun _ h => absurd h List.not_mem_nil⟩⟩⟩⟩⟩⟩⟩⟩⟩⟩⟩⟩⟩⟩⟩⟩
def ip_cTz_64 : List (Nat × List (Nat × Instr × Nat × Nat)) := [(64, ip_cT_64), (65, ip_cT_65), (66, ip_cT_66), (67, ip_cT_67), (68, ip_cT_68), (69, ip_cT_69), (70, ip_cT_70), (71, ip_cT_71), (72, ip_cT_72), (73, ip_cT_73), (74, ip_cT_74), (75, ip_cT_75), (76, ip_cT_76), (77, ip_cT_77), (78, ip_cT_78), (79, ip_cT_79)]
theorem ip_dz_64 : ∀ q ∈ ip_cTz_64, (q.2.all (ip_chk q.1)) = true := List.forall_mem_cons.mpr ⟨ip_dj_64, List.forall_mem_cons.mpr ⟨ip_dj_65, List.forall_mem_cons.mpr ⟨ip_dj_66, List.forall_mem_cons.mpr ⟨ip_dj_67, List.forall_mem_cons.mpr ⟨ip_dj_68, List.forall_mem_cons.mpr ⟨ip_dj_69, List.forall_mem_cons.mpr ⟨ip_dj_70, List.forall_mem_cons.mpr ⟨ip_dj_71, List.forall_mem_cons.mpr ⟨ip_dj_72, List.forall_mem_cons.mpr ⟨ip_dj_73, List.forall_mem_cons.mpr ⟨ip_dj_74, List.forall_mem_cons.mpr ⟨ip_dj_75, List.forall_mem_cons.mpr ⟨ip_dj_76, List.forall_mem_cons.mpr ⟨ip_dj_77, List.forall_mem_cons.mpr ⟨ip_dj_78, List.forall_mem_cons.mpr ⟨ip_dj_79, fun _ h => absurd h List.not_mem_nil⟩⟩⟩⟩⟩⟩⟩⟩⟩⟩⟩⟩⟩⟩⟩⟩
def ip_cTz_80 : List (Nat × List (Nat × Instr × Nat × Nat)) := [(80, ip_cT_80), (81, ip_cT_81), (82, ip_cT_82), (83, ip_cT_83), (84, ip_cT_84), (85, ip_cT_85), (86, ip_cT_86), (87, ip_cT_87), (88, ip_cT_88), (89, ip_cT_89), (90, ip_cT_90), (91, ip_cT_91), (92, ip_cT_92), (93, ip_cT_93), (94, ip_cT_94), (95, ip_cT_95)]
theorem ip_dz_80 : ∀ q ∈ ip_cTz_80, (q.2.all (ip_chk q.1)) = true := List.forall_mem_cons.mpr ⟨ip_dj_80, List.forall_mem_cons.mpr ⟨ip_dj_81, List.forall_mem_cons.mpr ⟨ip_dj_82, List.forall_mem_cons.mpr ⟨ip_dj_83, List.forall_mem_cons.mpr ⟨ip_dj_84, List.forall_mem_cons.mpr ⟨ip_dj_85, List.forall_mem_cons.mpr ⟨ip_dj_86, List.forall_mem_cons.mpr ⟨ip_dj_87, List.forall_mem_cons.mpr ⟨ip_dj_88, List.forall_mem_cons.mpr ⟨ip_dj_89, List.forall_mem_cons.mpr ⟨ip_dj_90, List.forall_mem_cons.mpr ⟨ip_dj_91, List.forall_mem_cons.mpr ⟨ip_dj_92, List.forall_mem_cons.mpr ⟨ip_dj_93, List.forall_mem_cons.mpr ⟨ip_dj_94, List.forall_mem_cons.mpr ⟨ip_dj_95, fun _ h => absurd h List.not_mem_nil⟩⟩⟩⟩⟩⟩⟩⟩⟩⟩⟩⟩⟩⟩⟩⟩
def ip_cTz_96 : List (Nat × List (Nat × Instr × Nat × Nat)) := [(96, ip_cT_96), (97, ip_cT_97), (98, ip_cT_98), (99, ip_cT_99), (100, ip_cT_100), (101, ip_cT_101), (102, ip_cT_102), (103, ip_cT_103), (104, ip_cT_104), (105, ip_cT_105), (106, ip_cT_106), (107, ip_cT_107), (108, ip_cT_108), (109, ip_cT_109), (110, ip_cT_110), (111, ip_cT_111)]
theorem ip_dz_96 : ∀ q ∈ ip_cTz_96, (q.2.all (ip_chk q.1)) = true := List.forall_mem_cons.mpr ⟨ip_dj_96, List.forall_mem_cons.mpr ⟨ip_dj_97, List.forall_mem_cons.mpr ⟨ip_dj_98, List.forall_mem_cons.mpr ⟨ip_dj_99, List.forall_mem_cons.mpr ⟨ip_dj_100, List.forall_mem_cons.mpr ⟨ip_dj_101, List.forall_mem_cons.mpr ⟨ip_dj_102, List.forall_mem_cons.mpr ⟨ip_dj_103, List.forall_mem_cons.mpr ⟨ip_dj_104, List.forall_mem_cons.mpr ⟨ip_dj_105, List.forall_mem_cons.mpr ⟨ip_dj_106, List.forall_mem_cons.mpr ⟨ip_dj_107, List.forall_mem_cons.mpr ⟨ip_dj_108, List.forall_mem_cons.mpr ⟨ip_dj_109, List.forall_mem_cons.mpr ⟨ip_dj_110, List.forall_mem_cons.mpr ⟨ip_dj_111, fun _ h => absurd h List.not_mem_nil⟩⟩⟩⟩⟩⟩⟩⟩⟩⟩⟩⟩⟩⟩⟩⟩
def ip_cTz_112 : List (Nat × List (Nat × Instr × Nat × Nat)) := [(112, ip_cT_112), (113, ip_cT_113), (114, ip_cT_114), (115, ip_cT_115), (116, ip_cT_116), (117, ip_cT_117), (118, ip_cT_118), (119, ip_cT_119), (120, ip_cT_120), (121, ip_cT_121), (122, ip_cT_122), (123, ip_cT_123), (124, ip_cT_124), (125, ip_cT_125), (126, ip_cT_126), (127, ip_cT_127)]
theorem ip_dz_112 : ∀ q ∈ ip_cTz_112, (q.2.all (ip_chk q.1)) = true := List.forall_mem_cons.mpr ⟨ip_dj_112, List.forall_mem_cons.mpr ⟨ip_dj_113, List.forall_mem_cons.mpr ⟨ip_dj_114, List.forall_mem_cons.mpr ⟨ip_dj_115, List.forall_mem_cons.mpr ⟨ip_dj_116, List.forall_mem_cons.mpr ⟨ip_dj_117, List.forall_mem_cons.mpr ⟨ip_dj_118, List.forall_mem_cons.mpr ⟨ip_dj_119, List.forall_mem_cons.mpr ⟨ip_dj_120, List.forall_mem_cons.mpr ⟨ip_dj_121, List.forall_mem_cons.mpr ⟨ip_dj_122, List.forall_mem_cons.mpr ⟨ip_dj_123, List.forall_mem_cons.mpr ⟨ip_dj_124, List.forall_mem_cons.mpr ⟨ip_dj_125, List.forall_mem_cons.mpr ⟨ip_dj_126, List.forall_mem_cons.mpr ⟨ip_dj_127, fun _ h => absurd h List.not_mem_nil⟩⟩⟩⟩⟩⟩⟩⟩⟩⟩⟩⟩⟩⟩⟩⟩
def ip_cTz_128 : List (Nat × List (Nat × Instr × Nat × Nat)) := [(128, ip_cT_128), (129, ip_cT_129), (130, ip_cT_130), (131, ip_cT_131), (132, ip_cT_132), (133, ip_cT_133), (134, ip_cT_134), (135, ip_cT_135), (136, ip_cT_136), (137, ip_cT_137), (138, ip_cT_138), (139, ip_cT_139), (140, ip_cT_140), (141, ip_cT_141), (142, ip_cT_142), (143, ip_cT_143)]
theorem ip_dz_128 : ∀ q ∈ ip_cTz_128, (q.2.all (ip_chk q.1)) = true := List.forall_mem_cons.mpr ⟨ip_dj_128, List.forall_mem_cons.mpr ⟨ip_dj_129, List.forall_mem_cons.mpr ⟨ip_dj_130, List.forall_mem_cons.mpr ⟨ip_dj_131, List.forall_mem_cons.mpr ⟨ip_dj_132, List.forall_mem_cons.mpr ⟨ip_dj_133, List.forall_mem_cons.mpr ⟨ip_dj_134, List.forall_mem_cons.mpr ⟨ip_dj_135, List.forall_mem_cons.mpr ⟨ip_dj_136, List.forall_mem_cons.mpr ⟨ip_dj_137, List.forall_mem_cons.mpr ⟨ip_dj_138, List.forall_mem_cons.mpr ⟨ip_dj_139, List.forall_mem_cons.mpr ⟨ip_dj_140, List.forall_mem_cons.mpr ⟨ip_dj_141, List.forall_mem_cons.mpr ⟨ip_dj_142, List.forall_mem_cons.mpr ⟨ip_dj_143, fun _ h => absurd h List.not_mem_nil⟩⟩⟩⟩⟩⟩⟩⟩⟩⟩⟩⟩⟩⟩⟩⟩
def ip_cTz_144 : List (Nat × List (Nat × Instr × Nat × Nat)) := [(144, ip_cT_144), (145, ip_cT_145), (146, ip_cT_146), (147, ip_cT_147), (148, ip_cT_148), (149, ip_cT_149), (150, ip_cT_150), (151, ip_cT_151), (152, ip_cT_152), (153, ip_cT_153), (154, ip_cT_154), (155, ip_cT_155), (156, ip_cT_156), (157, ip_cT_157), (158, ip_cT_158), (159, ip_cT_159)]
theorem ip_dz_144 : ∀ q ∈ ip_cTz_144, (q.2.all (ip_chk q.1)) = true := List.forall_mem_cons.mpr ⟨ip_dj_144, List.forall_mem_cons.mpr ⟨ip_dj_145, List.forall_mem_cons.mpr ⟨ip_dj_146, List.forall_mem_cons.mpr ⟨ip_dj_147, List.forall_mem_cons.mpr ⟨ip_dj_148, List.forall_mem_cons.mpr ⟨ip_dj_149, List.forall_mem_cons.mpr ⟨ip_dj_150, List.forall_mem_cons.mpr ⟨ip_dj_151, List.forall_mem_cons.mpr ⟨ip_dj_152, List.forall_mem_cons.mpr ⟨ip_dj_153, List.forall_mem_cons.mpr ⟨ip_dj_154, List.forall_mem_cons.mpr ⟨ip_dj_155, List.forall_mem_cons.mpr ⟨ip_dj_156, List.forall_mem_cons.mpr ⟨ip_dj_157, List.forall_mem_cons.mpr ⟨ip_dj_158, List.forall_mem_cons.mpr ⟨ip_dj_159, fun _ h => absurd h List.not_mem_nil⟩⟩⟩⟩⟩⟩⟩⟩⟩⟩⟩⟩⟩⟩⟩⟩
def ip_cTz_160 : List (Nat × List (Nat × Instr × Nat × Nat)) := [(160, ip_cT_160), (161, ip_cT_161), (162, ip_cT_162), (163, ip_cT_163), (164, ip_cT_164), (165, ip_cT_165), (166, ip_cT_166), (167, ip_cT_167), (168, ip_cT_168), (169, ip_cT_169), (170, ip_cT_170), (171, ip_cT_171), (172, ip_cT_172), (173, ip_cT_173), (174, ip_cT_174), (175, ip_cT_175)]
theorem ip_dz_160 : ∀ q ∈ ip_cTz_160, (q.2.all (ip_chk q.1)) = true := List.forall_mem_cons.mpr ⟨ip_dj_160, List.forall_mem_cons.mpr ⟨ip_dj_161, List.forall_mem_cons.mpr ⟨ip_dj_162, List.forall_mem_cons.mpr ⟨ip_dj_163, List.forall_mem_cons.mpr ⟨ip_dj_164, List.forall_mem_cons.mpr ⟨ip_dj_165, List.forall_mem_cons.mpr ⟨ip_dj_166, List.forall_mem_cons.mpr ⟨ip_dj_167, List.forall_mem_cons.mpr ⟨ip_dj_168, List.forall_mem_cons.mpr ⟨ip_dj_169, List.forall_mem_cons.mpr ⟨ip_dj_170, List.forall_mem_cons.mpr ⟨ip_dj_171, List.forall_mem_cons.mpr ⟨ip_dj_172, List.forall_mem_cons.mpr ⟨ip_dj_173, List.forall_mem_cons.mpr ⟨ip_dj_174, List.forall_mem_cons.mpr ⟨ip_dj_175, fun _ h => absurd h List.not_mem_nil⟩⟩⟩⟩⟩⟩⟩⟩⟩⟩⟩⟩⟩⟩⟩⟩
def ip_cTz_176 : List (Nat × List (Nat × Instr × Nat × Nat)) := [(176, ip_cT_176), (177, ip_cT_177), (178, ip_cT_178), (179, ip_cT_179), (180, ip_cT_180), (181, ip_cT_181), (182, ip_cT_182), (183, ip_cT_183), (184, ip_cT_184), (185, ip_cT_185), (186, ip_cT_186), (187, ip_cT_187), (188, ip_cT_188), (189, ip_cT_189), (190, ip_cT_190), (191, ip_cT_191)]
theorem ip_dz_176 : ∀ q ∈ ip_cTz_176, (q.2.all (ip_chk q.1)) = true := List.forall_mem_cons.mpr ⟨ip_dj_176, List.forall_mem_cons.mpr ⟨ip_dj_177, List.forall_mem_cons.mpr ⟨ip_dj_178, List.forall_mem_cons.mpr ⟨ip_dj_179, List.forall_mem_cons.mpr ⟨ip_dj_180, List.forall_mem_cons.mpr ⟨ip_dj_181, List.forall_mem_cons.mpr ⟨ip_dj_182, List.forall_mem_cons.mpr ⟨ip_dj_183, List.forall_mem_cons.mpr ⟨ip_dj_184, List.forall_mem_cons.mpr ⟨ip_dj_185, List.forall_mem_cons.mpr ⟨ip_dj_186, List.forall_mem_cons.mpr ⟨ip_dj_187, List.forall_mem_cons.mpr ⟨ip_dj_188, List.forall_mem_cons.mpr ⟨ip_dj_189, List.forall_mem_cons.mpr ⟨ip_dj_190, List.forall_mem_cons.mpr ⟨ip_dj_191, fun _ h => absurd h List.not_mem_nil⟩⟩⟩⟩⟩⟩⟩⟩⟩⟩⟩⟩⟩⟩⟩⟩
def ip_cTz_192 : List (Nat × List (Nat × Instr × Nat × Nat)) := [(192, ip_cT_192), (193, ip_cT_193), (194, ip_cT_194), (195, ip_cT_195), (196, ip_cT_196), (197, ip_cT_197), (198, ip_cT_198), (199, ip_cT_199), (200, ip_cT_200), (201, ip_cT_201), (202, ip_cT_202), (203, ip_cT_203), (204, ip_cT_204), (205, ip_cT_205), (206, ip_cT_206), (207, ip_cT_207)]
theorem ip_dz_192 : ∀ q ∈ ip_cTz_192, (q.2.all (ip_chk q.1)) = true := List.forall_mem_cons.mpr ⟨ip_dj_192, List.forall_mem_cons.mpr ⟨ip_dj_193, List.forall_mem_cons.mpr ⟨ip_dj_194, List.forall_mem_cons.mpr ⟨ip_dj_195, List.forall_mem_cons.mpr ⟨ip_dj_196, List.forall_mem_cons.mpr ⟨ip_dj_197, List.forall_mem_cons.mpr ⟨ip_dj_198, List.forall_mem_cons.mpr ⟨ip_dj_199, List.forall_mem_cons.mpr ⟨ip_dj_200, List.forall_mem_cons.mpr ⟨ip_dj_201, List.forall_mem_cons.mpr ⟨ip_dj_202, List.forall_mem_cons.mpr ⟨ip_dj_203, List.forall_mem_cons.mpr ⟨ip_dj_204, List.forall_mem_cons.mpr ⟨ip_dj_205, List.forall_mem_cons.mpr ⟨ip_dj_206, List.forall_mem_cons.mpr ⟨ip_dj_207, fun _ h => absurd h List.not_mem_nil⟩⟩⟩⟩⟩⟩⟩⟩⟩⟩⟩⟩⟩⟩⟩⟩
def ip_cTz_208 : List (Nat × List (Nat × Instr × Nat × Nat)) := [(208, ip_cT_208), (209, ip_cT_209), (210, ip_cT_210), (211, ip_cT_211), (212, ip_cT_212), (213, ip_cT_213), (214, ip_cT_214), (215, ip_cT_215), (216, ip_cT_216), (217, ip_cT_217), (218, ip_cT_218), (219, ip_cT_219), (220, ip_cT_220), (221, ip_cT_221), (222, ip_cT_222), (223, ip_cT_223)]
theorem ip_dz_208 : ∀ q ∈ ip_cTz_208, (q.2.all (ip_chk q.1)) = true := List.forall_mem_cons.mpr ⟨ip_dj_208, List.forall_mem_cons.mpr ⟨ip_dj_209, List.forall_mem_cons.mpr ⟨ip_dj_210, List.forall_mem_cons.mpr ⟨ip_dj_211, List.forall_mem_cons.mpr ⟨ip_dj_212, List.forall_mem_cons.mpr ⟨ip_dj_213, List.forall_mem_cons.mpr ⟨ip_dj_214, List.forall_mem_cons.mpr ⟨ip_dj_215, List.forall_mem_cons.mpr ⟨ip_dj_216, List.forall_mem_cons.mpr ⟨ip_dj_217, List.forall_mem_cons.mpr ⟨ip_dj_218, List.forall_mem_cons.mpr ⟨ip_dj_219, List.forall_mem_cons.mpr ⟨ip_dj_220, List.forall_mem_cons.mpr ⟨ip_dj_221, List.forall_mem_cons.mpr ⟨ip_dj_222, List.forall_mem_cons.mpr ⟨ip_dj_223, fun _ h => absurd h List.not_mem_nil⟩⟩⟩⟩⟩⟩⟩⟩⟩⟩⟩⟩⟩⟩⟩⟩
def ip_cTz_224 : List (Nat × List (Nat × Instr × Nat × Nat)) := [(224, ip_cT_224), (225, ip_cT_225), (226, ip_cT_226), (227, ip_cT_227), (228, ip_cT_228), (229, ip_cT_229), (230, ip_cT_230), (231, ip_cT_231), (232, ip_cT_232), (233, ip_cT_233), (234, ip_cT_234), (235, ip_cT_235), (236, ip_cT_236), (237, ip_cT_237), (238, ip_cT_238), (239, ip_cT_239)]
theorem ip_dz_224 : ∀ q ∈ ip_cTz_224, (q.2.all (ip_chk q.1)) = true := List.forall_mem_cons.mpr ⟨ip_dj_224, List.forall_mem_cons.mpr ⟨ip_dj_225, List.forall_mem_cons.mpr ⟨ip_dj_226, List.forall_mem_cons.mpr ⟨ip_dj_227, List.forall_mem_cons.mpr ⟨ip_dj_228, List.forall_mem_cons.mpr ⟨ip_dj_229, List.forall_mem_cons.mpr ⟨ip_dj_230, List.forall_mem_cons.mpr ⟨ip_dj_231, List.forall_mem_cons.mpr ⟨ip_dj_232, List.forall_mem_cons.mpr ⟨ip_dj_233, List.forall_mem_cons.mpr ⟨ip_dj_234, List.forall_mem_cons.mpr ⟨ip_dj_235, List.forall_mem_cons.mpr ⟨ip_dj_236, List.forall_mem_cons.mpr ⟨ip_dj_237, List.forall_mem_cons.mpr ⟨ip_dj_238, List.forall_mem_cons.mpr ⟨ip_dj_239, fun _ h => absurd h List.not_mem_nil⟩⟩⟩⟩⟩⟩⟩⟩⟩⟩⟩⟩⟩⟩⟩⟩
def ip_cTz_240 : List (Nat × List (Nat × Instr × Nat × Nat)) := [(240, ip_cT_240), (241, ip_cT_241), (242, ip_cT_242), (243, ip_cT_243), (244, ip_cT_244)]
theorem ip_dz_240 : ∀ q ∈ ip_cTz_240, (q.2.all (ip_chk q.1)) = true := List.forall_mem_cons.mpr ⟨ip_dj_240, List.forall_mem_cons.mpr ⟨ip_dj_241, List.forall_mem_cons.mpr ⟨ip_dj_242, List.forall_mem_cons.mpr ⟨ip_dj_243, List.forall_mem_cons.mpr ⟨ip_dj_244, fun _ h => absurd h List.not_mem_nil⟩⟩⟩⟩⟩
set_option maxRecDepth 100000 in
theorem ip_cTz_eq : ip_cTz = ip_cTz_0 ++ ip_cTz_16 ++ ip_cTz_32 ++ ip_cTz_48 ++ ip_cTz_64 ++ ip_cTz_80 ++ ip_cTz_96 ++ ip_cTz_112 ++ ip_cTz_128 ++ ip_cTz_144 ++ ip_cTz_160 ++ ip_cTz_176 ++ ip_cTz_192 ++ ip_cTz_208 ++ ip_cTz_224 ++ ip_cTz_240 := rfl
theorem ip_dz : ∀ q ∈ ip_cTz, (q.2.all (ip_chk q.1)) = true := by
  intro q hq
  rw [ip_cTz_eq] at hq
  simp only [List.mem_append] at hq
  rcases hq with (((((((((((((((h | h) | h) | h) | h) | h) | h) | h) | h) | h) | h) | h) | h) | h) | h) | h)
  · exact ip_dz_0 q h
  · exact ip_dz_16 q h
  · exact ip_dz_32 q h
  · exact ip_dz_48 q h
  · exact ip_dz_64 q h
  · exact ip_dz_80 q h
  · exact ip_dz_96 q h
  · exact ip_dz_112 q h
  · exact ip_dz_128 q h
  · exact ip_dz_144 q h
  · exact ip_dz_160 q h
  · exact ip_dz_176 q h
  · exact ip_dz_192 q h
  · exact ip_dz_208 q h
  · exact ip_dz_224 q h
  · exact ip_dz_240 q h
set_option maxRecDepth 100000 in
theorem ip_cT_z : ip_cT.zipIdx = ip_cTz.map (fun q => (q.2, q.1)) := rfl
