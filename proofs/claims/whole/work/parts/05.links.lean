theorem ite_t {c : Prop} [Decidable c] {A B : Prop} (h : if c then A else B) (hc : c) : A := by rw [if_pos hc] at h; exact h
theorem ite_f {c : Prop} [Decidable c] {A B : Prop} (h : if c then A else B) (hc : ¬ c) : B := by rw [if_neg hc] at h; exact h
theorem wp_topi {Γ : Ctx} {nL pc : Nat} {L : List (Nat × Value)} {st : List Value} {I : MI} {J : MJ} {x : Int32} (k : ∀ y : Int32, y = x → Wp Γ nL pc L (.int y :: st) I J) : Wp Γ nL pc L (.int x :: st) I J := k x rfl
theorem wp_topl {Γ : Ctx} {nL pc : Nat} {L : List (Nat × Value)} {st : List Value} {I : MI} {J : MJ} {x : Int64} (k : ∀ y : Int64, y = x → Wp Γ nL pc L (.long y :: st) I J) : Wp Γ nL pc L (.long x :: st) I J := k x rfl
theorem wp_memI {Γ : Ctx} {nL pc : Nat} {L : List (Nat × Value)} {st : List Value} {I : MI} {J : MJ} (k : ∀ I' : MI, I' = I → Wp Γ nL pc L st I' J) : Wp Γ nL pc L st I J := k I rfl
theorem wp_memJ {Γ : Ctx} {nL pc : Nat} {L : List (Nat × Value)} {st : List Value} {I : MI} {J : MJ} (k : ∀ J' : MJ, J' = J → Wp Γ nL pc L st I J') : Wp Γ nL pc L st I J := k J rfl
theorem wp_tab {Γ : Ctx} {cc : ByteArray} {nL d pc : Nat} {own : String} {L : List (Nat × Value)} {st : List Value} {I : MI} {J : MJ} {dflt lo hi : Int} {offs : Array Int} {len : Nat} {x y : Int32} {off : Int} {tgt : Nat} (X : Cx Γ cc nL own d) (hd : decode cc pc = .ok (.tableswitch dflt lo hi offs, len)) (hx : x = y) (h1 : ¬ y.toInt < lo) (h2 : ¬ hi < y.toInt) (ho : offs[(y.toInt - lo).toNat]? = some off) (ht : (pc : Int) + off = (tgt : Int)) (k : Wp Γ nL tgt L st I J) : Wp Γ nL pc L (.int x :: st) I J := by
  subst hx
  exact wp_tableIn X hd h1 h2 ho ht k
theorem sh_0 : shp[0]? = some (8, 0) := by decide +kernel
theorem sh_1 : shp[1]? = some (23, 16) := by decide +kernel
theorem sh_2 : shp[2]? = some (0, 0) := by decide +kernel
theorem sh_3 : shp[3]? = some (20, 225) := by decide +kernel
theorem sh_4 : shp[4]? = some (20, 225) := by decide +kernel
theorem sh_5 : shp[5]? = some (20, 512) := by decide +kernel
theorem sh_6 : shp[6]? = some (22, 225) := by decide +kernel
theorem sh_7 : shp[7]? = some (20, 900) := by decide +kernel
theorem sh_8 : shp[8]? = some (20, 225) := by decide +kernel
theorem sh_9 : shp[9]? = some (20, 225) := by decide +kernel
theorem sh_10 : shp[10]? = some (20, 225) := by decide +kernel
theorem sh_11 : shp[11]? = some (20, 14) := by decide +kernel
theorem sh_12 : shp[12]? = some (1, 0) := by decide +kernel
theorem sh_13 : shp[13]? = some (3, 0) := by decide +kernel
theorem sh_14 : shp[14]? = some (20, 14) := by decide +kernel
theorem sh_15 : shp[15]? = some (20, 56) := by decide +kernel
theorem sh_16 : shp[16]? = some (20, 56) := by decide +kernel
theorem sh_17 : shp[17]? = some (20, 14) := by decide +kernel
theorem sh_18 : shp[18]? = some (3, 0) := by decide +kernel
theorem sh_19 : shp[19]? = some (20, 14) := by decide +kernel
theorem sh_20 : shp[20]? = some (20, 56) := by decide +kernel
theorem sh_21 : shp[21]? = some (20, 56) := by decide +kernel
theorem sh_22 : shp[22]? = some (20, 14) := by decide +kernel
theorem sh_23 : shp[23]? = some (7, 0) := by decide +kernel
theorem sh_24 : shp[24]? = some (22, 1736) := by decide +kernel
theorem sh_25 : shp[25]? = some (20, 224) := by decide +kernel
theorem sh_26 : shp[26]? = some (6, 0) := by decide +kernel
theorem sh_27 : shp[27]? = some (3, 0) := by decide +kernel
theorem sh_28 : shp[28]? = some (20, 14) := by decide +kernel
theorem sh_29 : shp[29]? = some (20, 56) := by decide +kernel
theorem sh_30 : shp[30]? = some (20, 56) := by decide +kernel
theorem sh_31 : shp[31]? = some (20, 14) := by decide +kernel
theorem sh_32 : shp[32]? = some (22, 6) := by decide +kernel
theorem sh_33 : shp[33]? = some (22, 175) := by decide +kernel
theorem sh_34 : shp[34]? = some (22, 13) := by decide +kernel
theorem sh_35 : shp[35]? = some (22, 6) := by decide +kernel
theorem sh_36 : shp[36]? = some (22, 2048) := by decide +kernel
theorem sh_37 : shp[37]? = some (5, 0) := by decide +kernel
theorem sh_38 : shp[38]? = some (3, 0) := by decide +kernel
theorem sh_39 : shp[39]? = some (20, 14) := by decide +kernel
theorem sh_40 : shp[40]? = some (20, 56) := by decide +kernel
theorem sh_41 : shp[41]? = some (20, 56) := by decide +kernel
theorem sh_42 : shp[42]? = some (20, 14) := by decide +kernel
theorem sh_43 : shp[43]? = some (3, 0) := by decide +kernel
theorem sh_44 : shp[44]? = some (20, 14) := by decide +kernel
theorem sh_45 : shp[45]? = some (20, 56) := by decide +kernel
theorem sh_46 : shp[46]? = some (20, 56) := by decide +kernel
theorem sh_47 : shp[47]? = some (20, 14) := by decide +kernel
theorem sh_48 : shp[48]? = some (22, 14) := by decide +kernel
theorem sh_49 : shp[49]? = some (22, 14) := by decide +kernel
theorem sh_50 : shp[50]? = some (20, 14) := by decide +kernel
theorem sh_51 : shp[51]? = some (20, 196) := by decide +kernel
theorem sh_52 : shp[52]? = some (2, 0) := by decide +kernel
theorem sh_53 : shp[53]? = some (22, 12) := by decide +kernel
theorem sh_54 : shp[54]? = some (20, 12) := by decide +kernel
theorem sh_55 : shp[55]? = some (20, 12) := by decide +kernel
theorem sh_56 : shp[56]? = some (20, 12) := by decide +kernel
theorem sh_57 : shp[57]? = some (20, 12) := by decide +kernel
theorem sh_58 : shp[58]? = some (20, 12) := by decide +kernel
theorem sh_59 : shp[59]? = some (20, 56) := by decide +kernel
theorem sh_60 : shp[60]? = some (3, 0) := by decide +kernel
theorem sh_61 : shp[61]? = some (20, 14) := by decide +kernel
theorem sh_62 : shp[62]? = some (20, 56) := by decide +kernel
theorem sh_63 : shp[63]? = some (20, 56) := by decide +kernel
theorem sh_64 : shp[64]? = some (20, 14) := by decide +kernel
theorem sh_65 : shp[65]? = some (4, 0) := by decide +kernel
theorem sh_66 : shp[66]? = some (3, 0) := by decide +kernel
theorem sh_67 : shp[67]? = some (20, 14) := by decide +kernel
theorem sh_68 : shp[68]? = some (20, 56) := by decide +kernel
theorem sh_69 : shp[69]? = some (20, 56) := by decide +kernel
theorem sh_70 : shp[70]? = some (20, 14) := by decide +kernel
theorem sh_71 : shp[71]? = some (22, 8) := by decide +kernel
theorem sh_72 : shp[72]? = some (4, 0) := by decide +kernel
theorem sh_73 : shp[73]? = some (3, 0) := by decide +kernel
theorem sh_74 : shp[74]? = some (20, 14) := by decide +kernel
theorem sh_75 : shp[75]? = some (20, 56) := by decide +kernel
theorem sh_76 : shp[76]? = some (20, 56) := by decide +kernel
theorem sh_77 : shp[77]? = some (20, 14) := by decide +kernel
theorem sh_78 : shp[78]? = some (22, 8) := by decide +kernel
theorem sh_79 : shp[79]? = some (4, 0) := by decide +kernel
theorem sh_80 : shp[80]? = some (3, 0) := by decide +kernel
theorem sh_81 : shp[81]? = some (20, 14) := by decide +kernel
theorem sh_82 : shp[82]? = some (20, 56) := by decide +kernel
theorem sh_83 : shp[83]? = some (20, 56) := by decide +kernel
theorem sh_84 : shp[84]? = some (20, 14) := by decide +kernel
theorem sh_85 : shp[85]? = some (22, 8) := by decide +kernel
theorem sh_86 : shp[86]? = some (4, 0) := by decide +kernel
theorem sh_87 : shp[87]? = some (3, 0) := by decide +kernel
theorem sh_88 : shp[88]? = some (20, 14) := by decide +kernel
theorem sh_89 : shp[89]? = some (20, 56) := by decide +kernel
theorem sh_90 : shp[90]? = some (20, 56) := by decide +kernel
theorem sh_91 : shp[91]? = some (20, 14) := by decide +kernel
theorem sh_92 : shp[92]? = some (22, 8) := by decide +kernel
theorem sh_93 : shp[93]? = some (4, 0) := by decide +kernel
theorem sh_94 : shp[94]? = some (3, 0) := by decide +kernel
theorem sh_95 : shp[95]? = some (20, 14) := by decide +kernel
theorem sh_96 : shp[96]? = some (20, 56) := by decide +kernel
theorem sh_97 : shp[97]? = some (20, 56) := by decide +kernel
theorem sh_98 : shp[98]? = some (20, 14) := by decide +kernel
theorem sh_99 : shp[99]? = some (22, 8) := by decide +kernel
theorem sh_100 : shp[100]? = some (4, 0) := by decide +kernel
theorem sh_101 : shp[101]? = some (3, 0) := by decide +kernel
theorem sh_102 : shp[102]? = some (20, 14) := by decide +kernel
theorem sh_103 : shp[103]? = some (20, 56) := by decide +kernel
theorem sh_104 : shp[104]? = some (20, 56) := by decide +kernel
theorem sh_105 : shp[105]? = some (20, 14) := by decide +kernel
theorem sh_106 : shp[106]? = some (22, 8) := by decide +kernel
theorem sh_107 : shp[107]? = some (4, 0) := by decide +kernel
theorem sh_108 : shp[108]? = some (3, 0) := by decide +kernel
theorem sh_109 : shp[109]? = some (20, 14) := by decide +kernel
theorem sh_110 : shp[110]? = some (20, 56) := by decide +kernel
theorem sh_111 : shp[111]? = some (20, 56) := by decide +kernel
theorem sh_112 : shp[112]? = some (20, 14) := by decide +kernel
theorem sh_113 : shp[113]? = some (22, 8) := by decide +kernel
theorem sh_114 : shp[114]? = some (4, 0) := by decide +kernel
theorem sh_115 : shp[115]? = some (3, 0) := by decide +kernel
theorem sh_116 : shp[116]? = some (20, 14) := by decide +kernel
theorem sh_117 : shp[117]? = some (20, 56) := by decide +kernel
theorem sh_118 : shp[118]? = some (20, 56) := by decide +kernel
theorem sh_119 : shp[119]? = some (20, 14) := by decide +kernel
theorem sh_120 : shp[120]? = some (22, 8) := by decide +kernel
theorem sh_121 : shp[121]? = some (4, 0) := by decide +kernel
theorem sh_122 : shp[122]? = some (3, 0) := by decide +kernel
theorem sh_123 : shp[123]? = some (20, 14) := by decide +kernel
theorem sh_124 : shp[124]? = some (20, 56) := by decide +kernel
theorem sh_125 : shp[125]? = some (20, 56) := by decide +kernel
theorem sh_126 : shp[126]? = some (20, 14) := by decide +kernel
theorem sh_127 : shp[127]? = some (22, 8) := by decide +kernel
theorem sh_128 : shp[128]? = some (4, 0) := by decide +kernel
theorem sh_129 : shp[129]? = some (3, 0) := by decide +kernel
theorem sh_130 : shp[130]? = some (20, 14) := by decide +kernel
theorem sh_131 : shp[131]? = some (20, 56) := by decide +kernel
theorem sh_132 : shp[132]? = some (20, 56) := by decide +kernel
theorem sh_133 : shp[133]? = some (20, 14) := by decide +kernel
theorem sh_134 : shp[134]? = some (22, 8) := by decide +kernel
theorem sh_135 : shp[135]? = some (4, 0) := by decide +kernel
theorem sh_136 : shp[136]? = some (3, 0) := by decide +kernel
theorem sh_137 : shp[137]? = some (20, 14) := by decide +kernel
theorem sh_138 : shp[138]? = some (20, 56) := by decide +kernel
theorem sh_139 : shp[139]? = some (20, 56) := by decide +kernel
theorem sh_140 : shp[140]? = some (20, 14) := by decide +kernel
theorem sh_141 : shp[141]? = some (22, 8) := by decide +kernel
theorem sh_142 : shp[142]? = some (4, 0) := by decide +kernel
theorem sh_143 : shp[143]? = some (3, 0) := by decide +kernel
theorem sh_144 : shp[144]? = some (20, 14) := by decide +kernel
theorem sh_145 : shp[145]? = some (20, 56) := by decide +kernel
theorem sh_146 : shp[146]? = some (20, 56) := by decide +kernel
theorem sh_147 : shp[147]? = some (20, 14) := by decide +kernel
theorem sh_148 : shp[148]? = some (22, 8) := by decide +kernel
theorem sh_149 : shp[149]? = some (4, 0) := by decide +kernel
theorem sh_150 : shp[150]? = some (3, 0) := by decide +kernel
theorem sh_151 : shp[151]? = some (20, 14) := by decide +kernel
theorem sh_152 : shp[152]? = some (20, 56) := by decide +kernel
theorem sh_153 : shp[153]? = some (20, 56) := by decide +kernel
theorem sh_154 : shp[154]? = some (20, 14) := by decide +kernel
theorem sh_155 : shp[155]? = some (22, 8) := by decide +kernel
theorem sh_156 : shp[156]? = some (4, 0) := by decide +kernel
theorem sh_157 : shp[157]? = some (3, 0) := by decide +kernel
theorem sh_158 : shp[158]? = some (20, 14) := by decide +kernel
theorem sh_159 : shp[159]? = some (20, 56) := by decide +kernel
theorem sh_160 : shp[160]? = some (20, 56) := by decide +kernel
theorem sh_161 : shp[161]? = some (20, 14) := by decide +kernel
theorem sh_162 : shp[162]? = some (22, 8) := by decide +kernel
theorem sh_163 : shp[163]? = some (4, 0) := by decide +kernel
theorem sh_164 : shp[164]? = some (3, 0) := by decide +kernel
theorem sh_165 : shp[165]? = some (20, 14) := by decide +kernel
theorem sh_166 : shp[166]? = some (20, 56) := by decide +kernel
theorem sh_167 : shp[167]? = some (20, 56) := by decide +kernel
theorem sh_168 : shp[168]? = some (20, 14) := by decide +kernel
theorem sh_169 : shp[169]? = some (22, 8) := by decide +kernel
theorem sh_170 : shp[170]? = some (4, 0) := by decide +kernel
theorem sh_171 : shp[171]? = some (3, 0) := by decide +kernel
theorem sh_172 : shp[172]? = some (20, 14) := by decide +kernel
theorem sh_173 : shp[173]? = some (20, 56) := by decide +kernel
theorem sh_174 : shp[174]? = some (20, 56) := by decide +kernel
theorem sh_175 : shp[175]? = some (20, 14) := by decide +kernel
theorem sh_176 : shp[176]? = some (22, 8) := by decide +kernel
theorem sh_177 : shp[177]? = some (9, 0) := by decide +kernel
theorem sh_178 : shp[178]? = some (20, 16) := by decide +kernel
theorem sh_179 : shp[179]? = some (20, 16) := by decide +kernel
theorem sh_180 : shp[180]? = some (22, 128) := by decide +kernel
theorem sh_181 : shp[181]? = some (20, 16) := by decide +kernel
theorem sh_182 : shp[182]? = some (20, 16) := by decide +kernel
theorem sh_183 : shp[183]? = some (21, 16) := by decide +kernel
theorem sh_184 : shp[184]? = some (20, 20) := by decide +kernel
theorem sh_185 : shp[185]? = some (20, 20) := by decide +kernel
theorem sh_186 : shp[186]? = some (20, 20) := by decide +kernel
theorem sh_187 : shp[187]? = some (20, 280) := by decide +kernel
theorem sh_188 : shp[188]? = some (20, 280) := by decide +kernel
theorem sh_189 : shp[189]? = some (20, 1120) := by decide +kernel
theorem sh_190 : shp[190]? = some (20, 1120) := by decide +kernel
theorem sh_191 : shp[191]? = some (20, 57) := by decide +kernel
theorem sh_192 : shp[192]? = some (20, 57) := by decide +kernel
theorem sh_193 : shp[193]? = some (22, 57) := by decide +kernel
theorem sh_194 : shp[194]? = some (20, 228) := by decide +kernel
theorem sh_195 : shp[195]? = some (21, 256) := by decide +kernel
theorem sh_196 : shp[196]? = some (20, 16) := by decide +kernel
theorem sh_197 : shp[197]? = some (22, 280) := by decide +kernel
theorem sh_198 : shp[198]? = some (20, 4) := by decide +kernel
theorem sh_199 : shp[199]? = some (20, 4) := by decide +kernel
theorem sh_200 : shp[200]? = some (22, 1736) := by decide +kernel
theorem sh_201 : shp[201]? = some (20, 256) := by decide +kernel
theorem sh_202 : shp[202]? = some (20, 256) := by decide +kernel
theorem sh_203 : shp[203]? = some (22, 256) := by decide +kernel
theorem sh_204 : shp[204]? = some (21, 256) := by decide +kernel
theorem sh_205 : shp[205]? = some (20, 512) := by decide +kernel
theorem sh_206 : shp[206]? = some (20, 512) := by decide +kernel
theorem sh_207 : shp[207]? = some (20, 2048) := by decide +kernel
theorem sh_208 : shp[208]? = some (21, 512) := by decide +kernel
theorem sh_209 : shp[209]? = some (20, 512) := by decide +kernel
theorem sh_210 : shp[210]? = some (20, 512) := by decide +kernel
theorem sh_211 : shp[211]? = some (22, 6000) := by decide +kernel
theorem sh_212 : shp[212]? = some (22, 32) := by decide +kernel
theorem sh_213 : shp[213]? = some (22, 16) := by decide +kernel
theorem sh_214 : shp[214]? = some (22, 16) := by decide +kernel
theorem sh_215 : shp[215]? = some (22, 32) := by decide +kernel
theorem sh_216 : shp[216]? = some (22, 64) := by decide +kernel
theorem sh_217 : shp[217]? = some (22, 12) := by decide +kernel
theorem sh_218 : shp[218]? = some (20, 12) := by decide +kernel
theorem sh_219 : shp[219]? = some (20, 64) := by decide +kernel
theorem sh_220 : shp[220]? = some (20, 12) := by decide +kernel
def okM (o : Nat) : Prop := shp[o]? = some (3, 0) ∧ shp[o + 1]? = some (20, 14) ∧ shp[o + 2]? = some (20, 56) ∧ shp[o + 3]? = some (20, 56) ∧ shp[o + 4]? = some (20, 14)
def okP (o : Nat) : Prop := shp[o]? = some (4, 0) ∧ okM (o + 1) ∧ shp[o + 6]? = some (22, 8)
theorem okM_13 : okM 13 := ⟨sh_13, sh_14, sh_15, sh_16, sh_17⟩
theorem okM_18 : okM 18 := ⟨sh_18, sh_19, sh_20, sh_21, sh_22⟩
theorem okM_27 : okM 27 := ⟨sh_27, sh_28, sh_29, sh_30, sh_31⟩
theorem okM_38 : okM 38 := ⟨sh_38, sh_39, sh_40, sh_41, sh_42⟩
theorem okM_43 : okM 43 := ⟨sh_43, sh_44, sh_45, sh_46, sh_47⟩
theorem okM_60 : okM 60 := ⟨sh_60, sh_61, sh_62, sh_63, sh_64⟩
theorem okM_66 : okM 66 := ⟨sh_66, sh_67, sh_68, sh_69, sh_70⟩
theorem okM_73 : okM 73 := ⟨sh_73, sh_74, sh_75, sh_76, sh_77⟩
theorem okM_80 : okM 80 := ⟨sh_80, sh_81, sh_82, sh_83, sh_84⟩
theorem okM_87 : okM 87 := ⟨sh_87, sh_88, sh_89, sh_90, sh_91⟩
theorem okM_94 : okM 94 := ⟨sh_94, sh_95, sh_96, sh_97, sh_98⟩
theorem okM_101 : okM 101 := ⟨sh_101, sh_102, sh_103, sh_104, sh_105⟩
theorem okM_108 : okM 108 := ⟨sh_108, sh_109, sh_110, sh_111, sh_112⟩
theorem okM_115 : okM 115 := ⟨sh_115, sh_116, sh_117, sh_118, sh_119⟩
theorem okM_122 : okM 122 := ⟨sh_122, sh_123, sh_124, sh_125, sh_126⟩
theorem okM_129 : okM 129 := ⟨sh_129, sh_130, sh_131, sh_132, sh_133⟩
theorem okM_136 : okM 136 := ⟨sh_136, sh_137, sh_138, sh_139, sh_140⟩
theorem okM_143 : okM 143 := ⟨sh_143, sh_144, sh_145, sh_146, sh_147⟩
theorem okM_150 : okM 150 := ⟨sh_150, sh_151, sh_152, sh_153, sh_154⟩
theorem okM_157 : okM 157 := ⟨sh_157, sh_158, sh_159, sh_160, sh_161⟩
theorem okM_164 : okM 164 := ⟨sh_164, sh_165, sh_166, sh_167, sh_168⟩
theorem okM_171 : okM 171 := ⟨sh_171, sh_172, sh_173, sh_174, sh_175⟩
theorem okP_all : ∀ k, k < 16 → okP (1 + 64 + 7 * k) := by unfold okP okM; decide +kernel
theorem okP_at {i : Int32} (h : vp_in i 16) : okP (1 + 64 + 7 * i.toNatClampNeg) := okP_all _ (Nat.not_le.mp fun q => h (Or.inr q))
theorem ic_m1 : Int32.ofInt (-1) = (-1) := by decide
theorem ic_0 : Int32.ofInt 0 = 0 := by decide
theorem ic_1 : Int32.ofInt 1 = 1 := by decide
theorem ic_2 : Int32.ofInt 2 = 2 := by decide
theorem ic_3 : Int32.ofInt 3 = 3 := by decide
theorem ic_4 : Int32.ofInt 4 = 4 := by decide
theorem ic_5 : Int32.ofInt 5 = 5 := by decide
theorem ii_m1 {x y : Int32} (h : y = x + (-1)) : x + Int32.ofInt (-1) = y := by rw [ic_m1]; exact h.symm
theorem ii_0 {x y : Int32} (h : y = x + 0) : x + Int32.ofInt 0 = y := by rw [ic_0]; exact h.symm
theorem ii_1 {x y : Int32} (h : y = x + 1) : x + Int32.ofInt 1 = y := by rw [ic_1]; exact h.symm
theorem ii_2 {x y : Int32} (h : y = x + 2) : x + Int32.ofInt 2 = y := by rw [ic_2]; exact h.symm
theorem ii_3 {x y : Int32} (h : y = x + 3) : x + Int32.ofInt 3 = y := by rw [ic_3]; exact h.symm
theorem ii_4 {x y : Int32} (h : y = x + 4) : x + Int32.ofInt 4 = y := by rw [ic_4]; exact h.symm
theorem ii_5 {x y : Int32} (h : y = x + 5) : x + Int32.ofInt 5 = y := by rw [ic_5]; exact h.symm
theorem bi_m3 : (Int8.ofInt (-3)).toInt32 = (-3) := by decide
theorem bi_m2 : (Int8.ofInt (-2)).toInt32 = (-2) := by decide
theorem bi_6 : (Int8.ofInt 6).toInt32 = 6 := by decide
theorem bi_7 : (Int8.ofInt 7).toInt32 = 7 := by decide
theorem bi_8 : (Int8.ofInt 8).toInt32 = 8 := by decide
theorem bi_9 : (Int8.ofInt 9).toInt32 = 9 := by decide
theorem bi_12 : (Int8.ofInt 12).toInt32 = 12 := by decide
theorem bi_13 : (Int8.ofInt 13).toInt32 = 13 := by decide
theorem bi_14 : (Int8.ofInt 14).toInt32 = 14 := by decide
theorem bi_15 : (Int8.ofInt 15).toInt32 = 15 := by decide
theorem bi_16 : (Int8.ofInt 16).toInt32 = 16 := by decide
theorem bi_17 : (Int8.ofInt 17).toInt32 = 17 := by decide
theorem bi_18 : (Int8.ofInt 18).toInt32 = 18 := by decide
theorem bi_19 : (Int8.ofInt 19).toInt32 = 19 := by decide
theorem bi_23 : (Int8.ofInt 23).toInt32 = 23 := by decide
theorem bi_30 : (Int8.ofInt 30).toInt32 = 30 := by decide
theorem bi_32 : (Int8.ofInt 32).toInt32 = 32 := by decide
theorem bi_40 : (Int8.ofInt 40).toInt32 = 40 := by decide
theorem bi_56 : (Int8.ofInt 56).toInt32 = 56 := by decide
theorem bi_57 : (Int8.ofInt 57).toInt32 = 57 := by decide
theorem bi_63 : (Int8.ofInt 63).toInt32 = 63 := by decide
theorem si_175 : (Int16.ofInt 175).toInt32 = 175 := by decide
theorem si_200 : (Int16.ofInt 200).toInt32 = 200 := by decide
theorem si_224 : (Int16.ofInt 224).toInt32 = 224 := by decide
theorem si_225 : (Int16.ofInt 225).toInt32 = 225 := by decide
theorem si_238 : (Int16.ofInt 238).toInt32 = 238 := by decide
theorem si_252 : (Int16.ofInt 252).toInt32 = 252 := by decide
theorem si_256 : (Int16.ofInt 256).toInt32 = 256 := by decide
theorem si_300 : (Int16.ofInt 300).toInt32 = 300 := by decide
theorem si_512 : (Int16.ofInt 512).toInt32 = 512 := by decide
theorem si_2048 : (Int16.ofInt 2048).toInt32 = 2048 := by decide
theorem si_12345 : (Int16.ofInt 12345).toInt32 = 12345 := by decide
theorem si_16383 : (Int16.ofInt 16383).toInt32 = 16383 := by decide
theorem si_16384 : (Int16.ofInt 16384).toInt32 = 16384 := by decide
theorem si_20000 : (Int16.ofInt 20000).toInt32 = 20000 := by decide
theorem lc_0 : Int64.ofNat ((0 : Fin 2) : Nat) = 0 := by decide
theorem lc_1 : Int64.ofNat ((1 : Fin 2) : Nat) = 1 := by decide
theorem pn_X0 : plainName RX0 = true := by decide +kernel
theorem pn_X1 : plainName RX1 = true := by decide +kernel
theorem pn_X2 : plainName RX2 = true := by decide +kernel
theorem pn_X3 : plainName RX3 = true := by decide +kernel
theorem pn_X4 : plainName RX4 = true := by decide +kernel
theorem pn_X5 : plainName RX5 = true := by decide +kernel
theorem pn_X6 : plainName RX6 = true := by decide +kernel
theorem pn_X7 : plainName RX7 = true := by decide +kernel
theorem pn_X8 : plainName RX8 = true := by decide +kernel
theorem pn_X9 : plainName RX9 = true := by decide +kernel
theorem pn_X10 : plainName RX10 = true := by decide +kernel
theorem pn_X11 : plainName RX11 = true := by decide +kernel
theorem pn_J6 : plainName RJ6 = true := by decide +kernel
theorem pn_J7 : plainName RJ7 = true := by decide +kernel
theorem in_X0 : ∀ w ∈ u_ws RX0 TX0 12, w ∈ TT := TT_all (by decide +kernel)
theorem in_X1 : ∀ w ∈ u_ws RX1 TX1 5, w ∈ TT := TT_all (by decide +kernel)
theorem in_X2 : ∀ w ∈ u_ws RX2 TX2 8, w ∈ TT := TT_all (by decide +kernel)
theorem in_X3 : ∀ w ∈ u_ws RX3 TX3 7, w ∈ TT := TT_all (by decide +kernel)
theorem in_X4 : ∀ w ∈ u_ws RX4 TX4 7, w ∈ TT := TT_all (by decide +kernel)
theorem in_X5 : ∀ w ∈ u_ws RX5 TX5 12, w ∈ TT := TT_all (by decide +kernel)
theorem in_X6 : ∀ w ∈ u_ws RX6 TX6 9, w ∈ TT := TT_all (by decide +kernel)
theorem in_X7 : ∀ w ∈ u_ws RX7 TX7 2, w ∈ TT := TT_all (by decide +kernel)
theorem in_X10 : ∀ w ∈ u_ws RX10 TX10 9, w ∈ TT := TT_all (by decide +kernel)
theorem in_X11 : ∀ w ∈ u_ws RX11 TX11 62, w ∈ TT := TT_all (by decide +kernel)
theorem kc_X0_44 : Cond.constant RX0 44 (-1640531535) ∈ TT := TT_at 737 (by decide +kernel) rfl
theorem kc_X3_62 : Cond.constant RX3 62 1103515245 ∈ TT := TT_at 569 (by decide +kernel) rfl
theorem kc_X11_234 : Cond.constant RX11 234 1103515245 ∈ TT := TT_at 1422 (by decide +kernel) rfl
theorem kc_X11_238 : Cond.constant RX11 238 65535 ∈ TT := TT_at 1423 (by decide +kernel) rfl
theorem kc_J6_265 : Cond.constant RJ6 265 1431655765 ∈ TT := TT_at 1095 (by decide +kernel) rfl
theorem kc_J6_266 : Cond.constant RJ6 266 858993459 ∈ TT := TT_at 1096 (by decide +kernel) rfl
theorem kc_J6_267 : Cond.constant RJ6 267 252645135 ∈ TT := TT_at 1097 (by decide +kernel) rfl
theorem kl_X10_183 : Cond.constantLong RX10 183 (-1) ∈ TT := TT_at 650 (by decide +kernel) rfl
theorem kl_X0_139 : Cond.constantLong RX0 139 4 ∈ TT := TT_at 787 (by decide +kernel) rfl
theorem kl_X2_86 : Cond.constantLong RX2 86 20000 ∈ TT := TT_at 1105 (by decide +kernel) rfl
theorem kl_X5_94 : Cond.constantLong RX5 94 4 ∈ TT := TT_at 1002 (by decide +kernel) rfl
theorem kl_X6_58 : Cond.constantLong RX6 58 4 ∈ TT := TT_at 895 (by decide +kernel) rfl
theorem kl_X6_101 : Cond.constantLong RX6 101 (-7046029254386353131) ∈ TT := TT_at 935 (by decide +kernel) rfl
theorem kl_X7_34 : Cond.constantLong RX7 34 (-1) ∈ TT := TT_at 686 (by decide +kernel) rfl
theorem kl_X7_70 : Cond.constantLong RX7 70 4 ∈ TT := TT_at 685 (by decide +kernel) rfl
theorem kl_X11_197 : Cond.constantLong RX11 197 4 ∈ TT := TT_at 1506 (by decide +kernel) rfl
theorem kl_X11_261 : Cond.constantLong RX11 261 (-1) ∈ TT := TT_at 1489 (by decide +kernel) rfl
theorem kl_X11_414 : Cond.constantLong RX11 414 20000 ∈ TT := TT_at 1754 (by decide +kernel) rfl
theorem fl_X10_11 : Cond.fieldLink RX10 11 RX10 (TX10 0).2.1 (TX10 0).2.2.1 ∈ TT := TT_at 432 (by decide +kernel) rfl
theorem gf_X10_11 {Γ : Ctx} {cc : ByteArray} {nL d pc : Nat} {L : List (Nat × Value)} {st : List Value} {I : MI} {J : MJ} {o n : Nat} {o' : Nat} (X : Cx Γ cc nL RX10 d) (hs : shp[o]? = some (8, n)) (ho : o + 1 = o') (hd : decode cc pc = .ok (.getfield 11, 3)) (k : Wp Γ nL (pc + 3) L (.ref (ad Γ o') :: st) I J) : Wp Γ nL pc L (.ref (ad Γ o) :: st) I J := wp_get X hs (by decide) rfl in_X10 0 (by decide) rfl fl_X10_11 (by subst ho; rfl) hd k
theorem fl_X10_18 : Cond.fieldLink RX10 18 RX10 (TX10 1).2.1 (TX10 1).2.2.1 ∈ TT := TT_at 433 (by decide +kernel) rfl
theorem gf_X10_18 {Γ : Ctx} {cc : ByteArray} {nL d pc : Nat} {L : List (Nat × Value)} {st : List Value} {I : MI} {J : MJ} {o n : Nat} {o' : Nat} (X : Cx Γ cc nL RX10 d) (hs : shp[o]? = some (8, n)) (ho : o + 2 = o') (hd : decode cc pc = .ok (.getfield 18, 3)) (k : Wp Γ nL (pc + 3) L (.ref (ad Γ o') :: st) I J) : Wp Γ nL pc L (.ref (ad Γ o) :: st) I J := wp_get X hs (by decide) rfl in_X10 1 (by decide) rfl fl_X10_18 (by subst ho; rfl) hd k
theorem fl_X10_25 : Cond.fieldLink RX10 25 RX10 (TX10 2).2.1 (TX10 2).2.2.1 ∈ TT := TT_at 434 (by decide +kernel) rfl
theorem gf_X10_25 {Γ : Ctx} {cc : ByteArray} {nL d pc : Nat} {L : List (Nat × Value)} {st : List Value} {I : MI} {J : MJ} {o n : Nat} {o' : Nat} (X : Cx Γ cc nL RX10 d) (hs : shp[o]? = some (8, n)) (ho : o + 12 = o') (hd : decode cc pc = .ok (.getfield 25, 3)) (k : Wp Γ nL (pc + 3) L (.ref (ad Γ o') :: st) I J) : Wp Γ nL pc L (.ref (ad Γ o) :: st) I J := wp_get X hs (by decide) rfl in_X10 2 (by decide) rfl fl_X10_25 (by subst ho; rfl) hd k
theorem fl_X10_32 : Cond.fieldLink RX10 32 RX10 (TX10 3).2.1 (TX10 3).2.2.1 ∈ TT := TT_at 435 (by decide +kernel) rfl
theorem gf_X10_32 {Γ : Ctx} {cc : ByteArray} {nL d pc : Nat} {L : List (Nat × Value)} {st : List Value} {I : MI} {J : MJ} {o n : Nat} {o' : Nat} (X : Cx Γ cc nL RX10 d) (hs : shp[o]? = some (8, n)) (ho : o + 23 = o') (hd : decode cc pc = .ok (.getfield 32, 3)) (k : Wp Γ nL (pc + 3) L (.ref (ad Γ o') :: st) I J) : Wp Γ nL pc L (.ref (ad Γ o) :: st) I J := wp_get X hs (by decide) rfl in_X10 3 (by decide) rfl fl_X10_32 (by subst ho; rfl) hd k
theorem fl_X10_39 : Cond.fieldLink RX10 39 RX10 (TX10 4).2.1 (TX10 4).2.2.1 ∈ TT := TT_at 436 (by decide +kernel) rfl
theorem gf_X10_39 {Γ : Ctx} {cc : ByteArray} {nL d pc : Nat} {L : List (Nat × Value)} {st : List Value} {I : MI} {J : MJ} {o n : Nat} {o' : Nat} (X : Cx Γ cc nL RX10 d) (hs : shp[o]? = some (8, n)) (ho : o + 26 = o') (hd : decode cc pc = .ok (.getfield 39, 3)) (k : Wp Γ nL (pc + 3) L (.ref (ad Γ o') :: st) I J) : Wp Γ nL pc L (.ref (ad Γ o) :: st) I J := wp_get X hs (by decide) rfl in_X10 4 (by decide) rfl fl_X10_39 (by subst ho; rfl) hd k
theorem fl_X10_46 : Cond.fieldLink RX10 46 RX10 (TX10 5).2.1 (TX10 5).2.2.1 ∈ TT := TT_at 437 (by decide +kernel) rfl
theorem gf_X10_46 {Γ : Ctx} {cc : ByteArray} {nL d pc : Nat} {L : List (Nat × Value)} {st : List Value} {I : MI} {J : MJ} {o n : Nat} {o' : Nat} (X : Cx Γ cc nL RX10 d) (hs : shp[o]? = some (8, n)) (ho : o + 37 = o') (hd : decode cc pc = .ok (.getfield 46, 3)) (k : Wp Γ nL (pc + 3) L (.ref (ad Γ o') :: st) I J) : Wp Γ nL pc L (.ref (ad Γ o) :: st) I J := wp_get X hs (by decide) rfl in_X10 5 (by decide) rfl fl_X10_46 (by subst ho; rfl) hd k
theorem fl_X10_53 : Cond.fieldLink RX10 53 RX10 (TX10 6).2.1 (TX10 6).2.2.1 ∈ TT := TT_at 438 (by decide +kernel) rfl
theorem gf_X10_53 {Γ : Ctx} {cc : ByteArray} {nL d pc : Nat} {L : List (Nat × Value)} {st : List Value} {I : MI} {J : MJ} {o n : Nat} {o' : Nat} (X : Cx Γ cc nL RX10 d) (hs : shp[o]? = some (8, n)) (ho : o + 52 = o') (hd : decode cc pc = .ok (.getfield 53, 3)) (k : Wp Γ nL (pc + 3) L (.ref (ad Γ o') :: st) I J) : Wp Γ nL pc L (.ref (ad Γ o) :: st) I J := wp_get X hs (by decide) rfl in_X10 6 (by decide) rfl fl_X10_53 (by subst ho; rfl) hd k
theorem fl_X10_60 : Cond.fieldLink RX10 60 RX10 (TX10 7).2.1 (TX10 7).2.2.1 ∈ TT := TT_at 439 (by decide +kernel) rfl
theorem gf_X10_60 {Γ : Ctx} {cc : ByteArray} {nL d pc : Nat} {L : List (Nat × Value)} {st : List Value} {I : MI} {J : MJ} {o n : Nat} {o' : Nat} (X : Cx Γ cc nL RX10 d) (hs : shp[o]? = some (8, n)) (ho : o + 60 = o') (hd : decode cc pc = .ok (.getfield 60, 3)) (k : Wp Γ nL (pc + 3) L (.ref (ad Γ o') :: st) I J) : Wp Γ nL pc L (.ref (ad Γ o) :: st) I J := wp_get X hs (by decide) rfl in_X10 7 (by decide) rfl fl_X10_60 (by subst ho; rfl) hd k
theorem fl_X10_64 : Cond.fieldLink RX10 64 RX10 (TX10 8).2.1 (TX10 8).2.2.1 ∈ TT := TT_at 440 (by decide +kernel) rfl
theorem gf_X10_64 {Γ : Ctx} {cc : ByteArray} {nL d pc : Nat} {L : List (Nat × Value)} {st : List Value} {I : MI} {J : MJ} {o n : Nat} (X : Cx Γ cc nL RX10 d) (hs : shp[o]? = some (8, n)) (hd : decode cc pc = .ok (.getfield 64, 3)) (k : Wp Γ nL (pc + 3) L (.int (I o 8) :: st) I J) : Wp Γ nL pc L (.ref (ad Γ o) :: st) I J := wp_get X hs (by decide) rfl in_X10 8 (by decide) rfl fl_X10_64 rfl hd k
theorem fs_8_8 {ad : Nat → Nat} {f : Nat → Int32} {h : Nat → Int64} {o : Nat} {x : Int32} : (flds ad 8 f h o).set 8 (.int x) = flds ad 8 (upd f 8 x) h o := by simp [flds, upd, vp_updL]
theorem pf_X10_64 {Γ : Ctx} {cc : ByteArray} {nL d pc : Nat} {L : List (Nat × Value)} {st : List Value} {I : MI} {J : MJ} {o n : Nat} {x : Int32} (X : Cx Γ cc nL RX10 d) (hs : shp[o]? = some (8, n)) (hd : decode cc pc = .ok (.putfield 64, 3)) (k : ∀ I' : MI, I' = (sI I o (upd (I o) 8 x)) → Wp Γ nL (pc + 3) L st I' J) : Wp Γ nL pc L (.int x :: .ref (ad Γ o) :: st) I J :=
  wp_put (I' := (sI I o (upd (I o) 8 x))) (J' := J) X hs (by decide) rfl in_X10 tyX10 tyX10_ok nmX10 8 (by decide) rfl fl_X10_64 rfl rfl rfl (Nat.le_of_ble_eq_true rfl) (by rw [fs_8_8, ← cel_o hs (by decide), wd_setI]) hd (k _ rfl)
theorem fl_X10_76 : Cond.fieldLink RX10 76 RX4 (TX4 1).2.1 (TX4 1).2.2.1 ∈ TT := TT_at 409 (by decide +kernel) rfl
theorem gf_X10_76 {Γ : Ctx} {cc : ByteArray} {nL d pc : Nat} {L : List (Nat × Value)} {st : List Value} {I : MI} {J : MJ} {o n : Nat} {o' : Nat} (X : Cx Γ cc nL RX10 d) (hs : shp[o]? = some (4, n)) (ho : o + 1 = o') (hd : decode cc pc = .ok (.getfield 76, 3)) (k : Wp Γ nL (pc + 3) L (.ref (ad Γ o') :: st) I J) : Wp Γ nL pc L (.ref (ad Γ o) :: st) I J := wp_get X hs (by decide) rfl in_X4 1 (by decide) rfl fl_X10_76 (by subst ho; rfl) hd k
theorem fl_X10_83 : Cond.fieldLink RX10 83 RX4 (TX4 0).2.1 (TX4 0).2.2.1 ∈ TT := TT_at 407 (by decide +kernel) rfl
theorem gf_X10_83 {Γ : Ctx} {cc : ByteArray} {nL d pc : Nat} {L : List (Nat × Value)} {st : List Value} {I : MI} {J : MJ} {o n : Nat} (X : Cx Γ cc nL RX10 d) (hs : shp[o]? = some (4, n)) (hd : decode cc pc = .ok (.getfield 83, 3)) (k : Wp Γ nL (pc + 3) L (.int (I o 0) :: st) I J) : Wp Γ nL pc L (.ref (ad Γ o) :: st) I J := wp_get X hs (by decide) rfl in_X4 0 (by decide) rfl fl_X10_83 rfl hd k
theorem fs_4_0 {ad : Nat → Nat} {f : Nat → Int32} {h : Nat → Int64} {o : Nat} {x : Int32} : (flds ad 4 f h o).set 0 (.int x) = flds ad 4 (upd f 0 x) h o := by simp [flds, upd, vp_updL]
theorem pf_X10_83 {Γ : Ctx} {cc : ByteArray} {nL d pc : Nat} {L : List (Nat × Value)} {st : List Value} {I : MI} {J : MJ} {o n : Nat} {x : Int32} (X : Cx Γ cc nL RX10 d) (hs : shp[o]? = some (4, n)) (hd : decode cc pc = .ok (.putfield 83, 3)) (k : ∀ I' : MI, I' = (sI I o (upd (I o) 0 x)) → Wp Γ nL (pc + 3) L st I' J) : Wp Γ nL pc L (.int x :: .ref (ad Γ o) :: st) I J :=
  wp_put (I' := (sI I o (upd (I o) 0 x))) (J' := J) X hs (by decide) rfl in_X4 tyX4 tyX4_ok nmX4 0 (by decide) rfl fl_X10_83 rfl rfl rfl (Nat.le_of_ble_eq_true rfl) (by rw [fs_4_0, ← cel_o hs (by decide), wd_setI]) hd (k _ rfl)
theorem fl_X10_93 : Cond.fieldLink RX10 93 RX3 (TX3 2).2.1 (TX3 2).2.2.1 ∈ TT := TT_at 206 (by decide +kernel) rfl
theorem gf_X10_93 {Γ : Ctx} {cc : ByteArray} {nL d pc : Nat} {L : List (Nat × Value)} {st : List Value} {I : MI} {J : MJ} {o n : Nat} (X : Cx Γ cc nL RX10 d) (hs : shp[o]? = some (3, n)) (hd : decode cc pc = .ok (.getfield 93, 3)) (k : Wp Γ nL (pc + 3) L (.int (I o 2) :: st) I J) : Wp Γ nL pc L (.ref (ad Γ o) :: st) I J := wp_get X hs (by decide) rfl in_X3 2 (by decide) rfl fl_X10_93 rfl hd k
theorem fs_3_2 {ad : Nat → Nat} {f : Nat → Int32} {h : Nat → Int64} {o : Nat} {x : Int32} : (flds ad 3 f h o).set 2 (.int x) = flds ad 3 (upd f 2 x) h o := by simp [flds, upd, vp_updL]
theorem pf_X10_93 {Γ : Ctx} {cc : ByteArray} {nL d pc : Nat} {L : List (Nat × Value)} {st : List Value} {I : MI} {J : MJ} {o n : Nat} {x : Int32} (X : Cx Γ cc nL RX10 d) (hs : shp[o]? = some (3, n)) (hd : decode cc pc = .ok (.putfield 93, 3)) (k : ∀ I' : MI, I' = (sI I o (upd (I o) 2 x)) → Wp Γ nL (pc + 3) L st I' J) : Wp Γ nL pc L (.int x :: .ref (ad Γ o) :: st) I J :=
  wp_put (I' := (sI I o (upd (I o) 2 x))) (J' := J) X hs (by decide) rfl in_X3 tyX3 tyX3_ok nmX3 2 (by decide) rfl fl_X10_93 rfl rfl rfl (Nat.le_of_ble_eq_true rfl) (by rw [fs_3_2, ← cel_o hs (by decide), wd_setI]) hd (k _ rfl)
theorem fl_X10_107 : Cond.fieldLink RX10 107 RX3 (TX3 1).2.1 (TX3 1).2.2.1 ∈ TT := TT_at 203 (by decide +kernel) rfl
theorem gf_X10_107 {Γ : Ctx} {cc : ByteArray} {nL d pc : Nat} {L : List (Nat × Value)} {st : List Value} {I : MI} {J : MJ} {o n : Nat} (X : Cx Γ cc nL RX10 d) (hs : shp[o]? = some (3, n)) (hd : decode cc pc = .ok (.getfield 107, 3)) (k : Wp Γ nL (pc + 3) L (.int (I o 1) :: st) I J) : Wp Γ nL pc L (.ref (ad Γ o) :: st) I J := wp_get X hs (by decide) rfl in_X3 1 (by decide) rfl fl_X10_107 rfl hd k
theorem fs_3_1 {ad : Nat → Nat} {f : Nat → Int32} {h : Nat → Int64} {o : Nat} {x : Int32} : (flds ad 3 f h o).set 1 (.int x) = flds ad 3 (upd f 1 x) h o := by simp [flds, upd, vp_updL]
theorem pf_X10_107 {Γ : Ctx} {cc : ByteArray} {nL d pc : Nat} {L : List (Nat × Value)} {st : List Value} {I : MI} {J : MJ} {o n : Nat} {x : Int32} (X : Cx Γ cc nL RX10 d) (hs : shp[o]? = some (3, n)) (hd : decode cc pc = .ok (.putfield 107, 3)) (k : ∀ I' : MI, I' = (sI I o (upd (I o) 1 x)) → Wp Γ nL (pc + 3) L st I' J) : Wp Γ nL pc L (.int x :: .ref (ad Γ o) :: st) I J :=
  wp_put (I' := (sI I o (upd (I o) 1 x))) (J' := J) X hs (by decide) rfl in_X3 tyX3 tyX3_ok nmX3 1 (by decide) rfl fl_X10_107 rfl rfl rfl (Nat.le_of_ble_eq_true rfl) (by rw [fs_3_1, ← cel_o hs (by decide), wd_setI]) hd (k _ rfl)
theorem fl_X10_114 : Cond.fieldLink RX10 114 RX3 (TX3 4).2.1 (TX3 4).2.2.1 ∈ TT := TT_at 215 (by decide +kernel) rfl
theorem gf_X10_114 {Γ : Ctx} {cc : ByteArray} {nL d pc : Nat} {L : List (Nat × Value)} {st : List Value} {I : MI} {J : MJ} {o n : Nat} {o' : Nat} (X : Cx Γ cc nL RX10 d) (hs : shp[o]? = some (3, n)) (ho : o + 2 = o') (hd : decode cc pc = .ok (.getfield 114, 3)) (k : Wp Γ nL (pc + 3) L (.ref (ad Γ o') :: st) I J) : Wp Γ nL pc L (.ref (ad Γ o) :: st) I J := wp_get X hs (by decide) rfl in_X3 4 (by decide) rfl fl_X10_114 (by subst ho; rfl) hd k
theorem fl_X10_126 : Cond.fieldLink RX10 126 RX3 (TX3 6).2.1 (TX3 6).2.2.1 ∈ TT := TT_at 223 (by decide +kernel) rfl
theorem gf_X10_126 {Γ : Ctx} {cc : ByteArray} {nL d pc : Nat} {L : List (Nat × Value)} {st : List Value} {I : MI} {J : MJ} {o n : Nat} {o' : Nat} (X : Cx Γ cc nL RX10 d) (hs : shp[o]? = some (3, n)) (ho : o + 4 = o') (hd : decode cc pc = .ok (.getfield 126, 3)) (k : Wp Γ nL (pc + 3) L (.ref (ad Γ o') :: st) I J) : Wp Γ nL pc L (.ref (ad Γ o) :: st) I J := wp_get X hs (by decide) rfl in_X3 6 (by decide) rfl fl_X10_126 (by subst ho; rfl) hd k
theorem fl_X10_129 : Cond.fieldLink RX10 129 RX3 (TX3 0).2.1 (TX3 0).2.2.1 ∈ TT := TT_at 197 (by decide +kernel) rfl
theorem gf_X10_129 {Γ : Ctx} {cc : ByteArray} {nL d pc : Nat} {L : List (Nat × Value)} {st : List Value} {I : MI} {J : MJ} {o n : Nat} (X : Cx Γ cc nL RX10 d) (hs : shp[o]? = some (3, n)) (hd : decode cc pc = .ok (.getfield 129, 3)) (k : Wp Γ nL (pc + 3) L (.int (I o 0) :: st) I J) : Wp Γ nL pc L (.ref (ad Γ o) :: st) I J := wp_get X hs (by decide) rfl in_X3 0 (by decide) rfl fl_X10_129 rfl hd k
theorem fs_3_0 {ad : Nat → Nat} {f : Nat → Int32} {h : Nat → Int64} {o : Nat} {x : Int32} : (flds ad 3 f h o).set 0 (.int x) = flds ad 3 (upd f 0 x) h o := by simp [flds, upd, vp_updL]
theorem pf_X10_129 {Γ : Ctx} {cc : ByteArray} {nL d pc : Nat} {L : List (Nat × Value)} {st : List Value} {I : MI} {J : MJ} {o n : Nat} {x : Int32} (X : Cx Γ cc nL RX10 d) (hs : shp[o]? = some (3, n)) (hd : decode cc pc = .ok (.putfield 129, 3)) (k : ∀ I' : MI, I' = (sI I o (upd (I o) 0 x)) → Wp Γ nL (pc + 3) L st I' J) : Wp Γ nL pc L (.int x :: .ref (ad Γ o) :: st) I J :=
  wp_put (I' := (sI I o (upd (I o) 0 x))) (J' := J) X hs (by decide) rfl in_X3 tyX3 tyX3_ok nmX3 0 (by decide) rfl fl_X10_129 rfl rfl rfl (Nat.le_of_ble_eq_true rfl) (by rw [fs_3_0, ← cel_o hs (by decide), wd_setI]) hd (k _ rfl)
theorem fl_X10_132 : Cond.fieldLink RX10 132 RX3 (TX3 5).2.1 (TX3 5).2.2.1 ∈ TT := TT_at 220 (by decide +kernel) rfl
theorem gf_X10_132 {Γ : Ctx} {cc : ByteArray} {nL d pc : Nat} {L : List (Nat × Value)} {st : List Value} {I : MI} {J : MJ} {o n : Nat} {o' : Nat} (X : Cx Γ cc nL RX10 d) (hs : shp[o]? = some (3, n)) (ho : o + 3 = o') (hd : decode cc pc = .ok (.getfield 132, 3)) (k : Wp Γ nL (pc + 3) L (.ref (ad Γ o') :: st) I J) : Wp Γ nL pc L (.ref (ad Γ o) :: st) I J := wp_get X hs (by decide) rfl in_X3 5 (by decide) rfl fl_X10_132 (by subst ho; rfl) hd k
theorem fl_X10_156 : Cond.fieldLink RX10 156 RX4 (TX4 2).2.1 (TX4 2).2.2.1 ∈ TT := TT_at 411 (by decide +kernel) rfl
theorem gf_X10_156 {Γ : Ctx} {cc : ByteArray} {nL d pc : Nat} {L : List (Nat × Value)} {st : List Value} {I : MI} {J : MJ} {o n : Nat} (X : Cx Γ cc nL RX10 d) (hs : shp[o]? = some (4, n)) (hd : decode cc pc = .ok (.getfield 156, 3)) (k : Wp Γ nL (pc + 3) L (.int (I o 2) :: st) I J) : Wp Γ nL pc L (.ref (ad Γ o) :: st) I J := wp_get X hs (by decide) rfl in_X4 2 (by decide) rfl fl_X10_156 rfl hd k
theorem fs_4_2 {ad : Nat → Nat} {f : Nat → Int32} {h : Nat → Int64} {o : Nat} {x : Int32} : (flds ad 4 f h o).set 2 (.int x) = flds ad 4 (upd f 2 x) h o := by simp [flds, upd, vp_updL]
theorem pf_X10_156 {Γ : Ctx} {cc : ByteArray} {nL d pc : Nat} {L : List (Nat × Value)} {st : List Value} {I : MI} {J : MJ} {o n : Nat} {x : Int32} (X : Cx Γ cc nL RX10 d) (hs : shp[o]? = some (4, n)) (hd : decode cc pc = .ok (.putfield 156, 3)) (k : ∀ I' : MI, I' = (sI I o (upd (I o) 2 x)) → Wp Γ nL (pc + 3) L st I' J) : Wp Γ nL pc L (.int x :: .ref (ad Γ o) :: st) I J :=
  wp_put (I' := (sI I o (upd (I o) 2 x))) (J' := J) X hs (by decide) rfl in_X4 tyX4 tyX4_ok nmX4 2 (by decide) rfl fl_X10_156 rfl rfl rfl (Nat.le_of_ble_eq_true rfl) (by rw [fs_4_2, ← cel_o hs (by decide), wd_setI]) hd (k _ rfl)
theorem fl_X10_159 : Cond.fieldLink RX10 159 RX4 (TX4 3).2.1 (TX4 3).2.2.1 ∈ TT := TT_at 413 (by decide +kernel) rfl
theorem gf_X10_159 {Γ : Ctx} {cc : ByteArray} {nL d pc : Nat} {L : List (Nat × Value)} {st : List Value} {I : MI} {J : MJ} {o n : Nat} (X : Cx Γ cc nL RX10 d) (hs : shp[o]? = some (4, n)) (hd : decode cc pc = .ok (.getfield 159, 3)) (k : Wp Γ nL (pc + 3) L (.int (I o 3) :: st) I J) : Wp Γ nL pc L (.ref (ad Γ o) :: st) I J := wp_get X hs (by decide) rfl in_X4 3 (by decide) rfl fl_X10_159 rfl hd k
theorem fs_4_3 {ad : Nat → Nat} {f : Nat → Int32} {h : Nat → Int64} {o : Nat} {x : Int32} : (flds ad 4 f h o).set 3 (.int x) = flds ad 4 (upd f 3 x) h o := by simp [flds, upd, vp_updL]
theorem pf_X10_159 {Γ : Ctx} {cc : ByteArray} {nL d pc : Nat} {L : List (Nat × Value)} {st : List Value} {I : MI} {J : MJ} {o n : Nat} {x : Int32} (X : Cx Γ cc nL RX10 d) (hs : shp[o]? = some (4, n)) (hd : decode cc pc = .ok (.putfield 159, 3)) (k : ∀ I' : MI, I' = (sI I o (upd (I o) 3 x)) → Wp Γ nL (pc + 3) L st I' J) : Wp Γ nL pc L (.int x :: .ref (ad Γ o) :: st) I J :=
  wp_put (I' := (sI I o (upd (I o) 3 x))) (J' := J) X hs (by decide) rfl in_X4 tyX4 tyX4_ok nmX4 3 (by decide) rfl fl_X10_159 rfl rfl rfl (Nat.le_of_ble_eq_true rfl) (by rw [fs_4_3, ← cel_o hs (by decide), wd_setI]) hd (k _ rfl)
theorem fl_X10_244 : Cond.fieldLink RX10 244 RX5 (TX5 7).2.1 (TX5 7).2.2.1 ∈ TT := TT_at 333 (by decide +kernel) rfl
theorem gf_X10_244 {Γ : Ctx} {cc : ByteArray} {nL d pc : Nat} {L : List (Nat × Value)} {st : List Value} {I : MI} {J : MJ} {o n : Nat} {o' : Nat} (X : Cx Γ cc nL RX10 d) (hs : shp[o]? = some (5, n)) (ho : o + 6 = o') (hd : decode cc pc = .ok (.getfield 244, 3)) (k : Wp Γ nL (pc + 3) L (.ref (ad Γ o') :: st) I J) : Wp Γ nL pc L (.ref (ad Γ o) :: st) I J := wp_get X hs (by decide) rfl in_X5 7 (by decide) rfl fl_X10_244 (by subst ho; rfl) hd k
theorem fl_X10_247 : Cond.fieldLink RX10 247 RX5 (TX5 0).2.1 (TX5 0).2.2.1 ∈ TT := TT_at 319 (by decide +kernel) rfl
theorem gf_X10_247 {Γ : Ctx} {cc : ByteArray} {nL d pc : Nat} {L : List (Nat × Value)} {st : List Value} {I : MI} {J : MJ} {o n : Nat} (X : Cx Γ cc nL RX10 d) (hs : shp[o]? = some (5, n)) (hd : decode cc pc = .ok (.getfield 247, 3)) (k : Wp Γ nL (pc + 3) L (.int (I o 0) :: st) I J) : Wp Γ nL pc L (.ref (ad Γ o) :: st) I J := wp_get X hs (by decide) rfl in_X5 0 (by decide) rfl fl_X10_247 rfl hd k
theorem fs_5_0 {ad : Nat → Nat} {f : Nat → Int32} {h : Nat → Int64} {o : Nat} {x : Int32} : (flds ad 5 f h o).set 0 (.int x) = flds ad 5 (upd f 0 x) h o := by simp [flds, upd, vp_updL]
theorem pf_X10_247 {Γ : Ctx} {cc : ByteArray} {nL d pc : Nat} {L : List (Nat × Value)} {st : List Value} {I : MI} {J : MJ} {o n : Nat} {x : Int32} (X : Cx Γ cc nL RX10 d) (hs : shp[o]? = some (5, n)) (hz : x = 0 ∨ x = 1) (hd : decode cc pc = .ok (.putfield 247, 3)) (k : ∀ I' : MI, I' = (sI I o (upd (I o) 0 x)) → Wp Γ nL (pc + 3) L st I' J) : Wp Γ nL pc L (.int x :: .ref (ad Γ o) :: st) I J :=
  wp_put (I' := (sI I o (upd (I o) 0 x))) (J' := J) X hs (by decide) rfl in_X5 tyX5 tyX5_ok nmX5 0 (by decide) rfl fl_X10_247 rfl (by rcases hz with rfl | rfl <;> decide) (by rcases hz with rfl | rfl <;> decide) (Nat.le_of_ble_eq_true rfl) (by rw [fs_5_0, ← cel_o hs (by decide), wd_setI]) hd (k _ rfl)
theorem fl_X10_251 : Cond.fieldLink RX10 251 RX5 (TX5 6).2.1 (TX5 6).2.2.1 ∈ TT := TT_at 331 (by decide +kernel) rfl
theorem gf_X10_251 {Γ : Ctx} {cc : ByteArray} {nL d pc : Nat} {L : List (Nat × Value)} {st : List Value} {I : MI} {J : MJ} {o n : Nat} {o' : Nat} (X : Cx Γ cc nL RX10 d) (hs : shp[o]? = some (5, n)) (ho : o + 1 = o') (hd : decode cc pc = .ok (.getfield 251, 3)) (k : Wp Γ nL (pc + 3) L (.ref (ad Γ o') :: st) I J) : Wp Γ nL pc L (.ref (ad Γ o) :: st) I J := wp_get X hs (by decide) rfl in_X5 6 (by decide) rfl fl_X10_251 (by subst ho; rfl) hd k
theorem fl_X10_257 : Cond.fieldLink RX10 257 RX5 (TX5 1).2.1 (TX5 1).2.2.1 ∈ TT := TT_at 321 (by decide +kernel) rfl
theorem gf_X10_257 {Γ : Ctx} {cc : ByteArray} {nL d pc : Nat} {L : List (Nat × Value)} {st : List Value} {I : MI} {J : MJ} {o n : Nat} (X : Cx Γ cc nL RX10 d) (hs : shp[o]? = some (5, n)) (hd : decode cc pc = .ok (.getfield 257, 3)) (k : Wp Γ nL (pc + 3) L (.int (I o 1) :: st) I J) : Wp Γ nL pc L (.ref (ad Γ o) :: st) I J := wp_get X hs (by decide) rfl in_X5 1 (by decide) rfl fl_X10_257 rfl hd k
theorem fs_5_1 {ad : Nat → Nat} {f : Nat → Int32} {h : Nat → Int64} {o : Nat} {x : Int32} : (flds ad 5 f h o).set 1 (.int x) = flds ad 5 (upd f 1 x) h o := by simp [flds, upd, vp_updL]
theorem pf_X10_257 {Γ : Ctx} {cc : ByteArray} {nL d pc : Nat} {L : List (Nat × Value)} {st : List Value} {I : MI} {J : MJ} {o n : Nat} {x : Int32} (X : Cx Γ cc nL RX10 d) (hs : shp[o]? = some (5, n)) (hd : decode cc pc = .ok (.putfield 257, 3)) (k : ∀ I' : MI, I' = (sI I o (upd (I o) 1 x)) → Wp Γ nL (pc + 3) L st I' J) : Wp Γ nL pc L (.int x :: .ref (ad Γ o) :: st) I J :=
  wp_put (I' := (sI I o (upd (I o) 1 x))) (J' := J) X hs (by decide) rfl in_X5 tyX5 tyX5_ok nmX5 1 (by decide) rfl fl_X10_257 rfl rfl rfl (Nat.le_of_ble_eq_true rfl) (by rw [fs_5_1, ← cel_o hs (by decide), wd_setI]) hd (k _ rfl)
theorem fl_X10_263 : Cond.fieldLink RX10 263 RX5 (TX5 2).2.1 (TX5 2).2.2.1 ∈ TT := TT_at 323 (by decide +kernel) rfl
theorem gf_X10_263 {Γ : Ctx} {cc : ByteArray} {nL d pc : Nat} {L : List (Nat × Value)} {st : List Value} {I : MI} {J : MJ} {o n : Nat} (X : Cx Γ cc nL RX10 d) (hs : shp[o]? = some (5, n)) (hd : decode cc pc = .ok (.getfield 263, 3)) (k : Wp Γ nL (pc + 3) L (.int (I o 2) :: st) I J) : Wp Γ nL pc L (.ref (ad Γ o) :: st) I J := wp_get X hs (by decide) rfl in_X5 2 (by decide) rfl fl_X10_263 rfl hd k
theorem fs_5_2 {ad : Nat → Nat} {f : Nat → Int32} {h : Nat → Int64} {o : Nat} {x : Int32} : (flds ad 5 f h o).set 2 (.int x) = flds ad 5 (upd f 2 x) h o := by simp [flds, upd, vp_updL]
theorem pf_X10_263 {Γ : Ctx} {cc : ByteArray} {nL d pc : Nat} {L : List (Nat × Value)} {st : List Value} {I : MI} {J : MJ} {o n : Nat} {x : Int32} (X : Cx Γ cc nL RX10 d) (hs : shp[o]? = some (5, n)) (hd : decode cc pc = .ok (.putfield 263, 3)) (k : ∀ I' : MI, I' = (sI I o (upd (I o) 2 x)) → Wp Γ nL (pc + 3) L st I' J) : Wp Γ nL pc L (.int x :: .ref (ad Γ o) :: st) I J :=
  wp_put (I' := (sI I o (upd (I o) 2 x))) (J' := J) X hs (by decide) rfl in_X5 tyX5 tyX5_ok nmX5 2 (by decide) rfl fl_X10_263 rfl rfl rfl (Nat.le_of_ble_eq_true rfl) (by rw [fs_5_2, ← cel_o hs (by decide), wd_setI]) hd (k _ rfl)
theorem fl_X10_266 : Cond.fieldLink RX10 266 RX5 (TX5 8).2.1 (TX5 8).2.2.1 ∈ TT := TT_at 335 (by decide +kernel) rfl
theorem gf_X10_266 {Γ : Ctx} {cc : ByteArray} {nL d pc : Nat} {L : List (Nat × Value)} {st : List Value} {I : MI} {J : MJ} {o n : Nat} {o' : Nat} (X : Cx Γ cc nL RX10 d) (hs : shp[o]? = some (5, n)) (ho : o + 11 = o') (hd : decode cc pc = .ok (.getfield 266, 3)) (k : Wp Γ nL (pc + 3) L (.ref (ad Γ o') :: st) I J) : Wp Γ nL pc L (.ref (ad Γ o) :: st) I J := wp_get X hs (by decide) rfl in_X5 8 (by decide) rfl fl_X10_266 (by subst ho; rfl) hd k
theorem fl_X10_270 : Cond.fieldLink RX10 270 RX5 (TX5 3).2.1 (TX5 3).2.2.1 ∈ TT := TT_at 325 (by decide +kernel) rfl
theorem gf_X10_270 {Γ : Ctx} {cc : ByteArray} {nL d pc : Nat} {L : List (Nat × Value)} {st : List Value} {I : MI} {J : MJ} {o n : Nat} (X : Cx Γ cc nL RX10 d) (hs : shp[o]? = some (5, n)) (hd : decode cc pc = .ok (.getfield 270, 3)) (k : Wp Γ nL (pc + 3) L (.int (I o 3) :: st) I J) : Wp Γ nL pc L (.ref (ad Γ o) :: st) I J := wp_get X hs (by decide) rfl in_X5 3 (by decide) rfl fl_X10_270 rfl hd k
theorem fs_5_3 {ad : Nat → Nat} {f : Nat → Int32} {h : Nat → Int64} {o : Nat} {x : Int32} : (flds ad 5 f h o).set 3 (.int x) = flds ad 5 (upd f 3 x) h o := by simp [flds, upd, vp_updL]
theorem pf_X10_270 {Γ : Ctx} {cc : ByteArray} {nL d pc : Nat} {L : List (Nat × Value)} {st : List Value} {I : MI} {J : MJ} {o n : Nat} {x : Int32} (X : Cx Γ cc nL RX10 d) (hs : shp[o]? = some (5, n)) (hd : decode cc pc = .ok (.putfield 270, 3)) (k : ∀ I' : MI, I' = (sI I o (upd (I o) 3 x)) → Wp Γ nL (pc + 3) L st I' J) : Wp Γ nL pc L (.int x :: .ref (ad Γ o) :: st) I J :=
  wp_put (I' := (sI I o (upd (I o) 3 x))) (J' := J) X hs (by decide) rfl in_X5 tyX5 tyX5_ok nmX5 3 (by decide) rfl fl_X10_270 rfl rfl rfl (Nat.le_of_ble_eq_true rfl) (by rw [fs_5_3, ← cel_o hs (by decide), wd_setI]) hd (k _ rfl)
theorem fl_X10_273 : Cond.fieldLink RX10 273 RX5 (TX5 9).2.1 (TX5 9).2.2.1 ∈ TT := TT_at 337 (by decide +kernel) rfl
theorem gf_X10_273 {Γ : Ctx} {cc : ByteArray} {nL d pc : Nat} {L : List (Nat × Value)} {st : List Value} {I : MI} {J : MJ} {o n : Nat} {o' : Nat} (X : Cx Γ cc nL RX10 d) (hs : shp[o]? = some (5, n)) (ho : o + 12 = o') (hd : decode cc pc = .ok (.getfield 273, 3)) (k : Wp Γ nL (pc + 3) L (.ref (ad Γ o') :: st) I J) : Wp Γ nL pc L (.ref (ad Γ o) :: st) I J := wp_get X hs (by decide) rfl in_X5 9 (by decide) rfl fl_X10_273 (by subst ho; rfl) hd k
theorem fl_X10_280 : Cond.fieldLink RX10 280 RX5 (TX5 5).2.1 (TX5 5).2.2.1 ∈ TT := TT_at 329 (by decide +kernel) rfl
theorem gf_X10_280 {Γ : Ctx} {cc : ByteArray} {nL d pc : Nat} {L : List (Nat × Value)} {st : List Value} {I : MI} {J : MJ} {o n : Nat} (X : Cx Γ cc nL RX10 d) (hs : shp[o]? = some (5, n)) (hd : decode cc pc = .ok (.getfield 280, 3)) (k : Wp Γ nL (pc + 3) L (.long (J o 5) :: st) I J) : Wp Γ nL pc L (.ref (ad Γ o) :: st) I J := wp_get X hs (by decide) rfl in_X5 5 (by decide) rfl fl_X10_280 rfl hd k
theorem fs_5_5 {ad : Nat → Nat} {f : Nat → Int32} {h : Nat → Int64} {o : Nat} {x : Int64} : (flds ad 5 f h o).set 5 (.long x) = flds ad 5 f (vp_updL h 5 x) o := by simp [flds, upd, vp_updL]
theorem pf_X10_280 {Γ : Ctx} {cc : ByteArray} {nL d pc : Nat} {L : List (Nat × Value)} {st : List Value} {I : MI} {J : MJ} {o n : Nat} {x : Int64} (X : Cx Γ cc nL RX10 d) (hs : shp[o]? = some (5, n)) (hd : decode cc pc = .ok (.putfield 280, 3)) (k : ∀ J' : MJ, J' = (sJ J o (vp_updL (J o) 5 x)) → Wp Γ nL (pc + 3) L st I J') : Wp Γ nL pc L (.long x :: .ref (ad Γ o) :: st) I J :=
  wp_put (I' := I) (J' := (sJ J o (vp_updL (J o) 5 x))) X hs (by decide) rfl in_X5 tyX5 tyX5_ok nmX5 5 (by decide) rfl fl_X10_280 rfl rfl rfl (Nat.le_of_ble_eq_true rfl) (by rw [fs_5_5, ← cel_o hs (by decide), wd_setJ]) hd (k _ rfl)
theorem fl_X10_284 : Cond.fieldLink RX10 284 RX5 (TX5 4).2.1 (TX5 4).2.2.1 ∈ TT := TT_at 327 (by decide +kernel) rfl
theorem gf_X10_284 {Γ : Ctx} {cc : ByteArray} {nL d pc : Nat} {L : List (Nat × Value)} {st : List Value} {I : MI} {J : MJ} {o n : Nat} (X : Cx Γ cc nL RX10 d) (hs : shp[o]? = some (5, n)) (hd : decode cc pc = .ok (.getfield 284, 3)) (k : Wp Γ nL (pc + 3) L (.int (I o 4) :: st) I J) : Wp Γ nL pc L (.ref (ad Γ o) :: st) I J := wp_get X hs (by decide) rfl in_X5 4 (by decide) rfl fl_X10_284 rfl hd k
theorem fs_5_4 {ad : Nat → Nat} {f : Nat → Int32} {h : Nat → Int64} {o : Nat} {x : Int32} : (flds ad 5 f h o).set 4 (.int x) = flds ad 5 (upd f 4 x) h o := by simp [flds, upd, vp_updL]
theorem pf_X10_284 {Γ : Ctx} {cc : ByteArray} {nL d pc : Nat} {L : List (Nat × Value)} {st : List Value} {I : MI} {J : MJ} {o n : Nat} {x : Int32} (X : Cx Γ cc nL RX10 d) (hs : shp[o]? = some (5, n)) (hd : decode cc pc = .ok (.putfield 284, 3)) (k : ∀ I' : MI, I' = (sI I o (upd (I o) 4 x)) → Wp Γ nL (pc + 3) L st I' J) : Wp Γ nL pc L (.int x :: .ref (ad Γ o) :: st) I J :=
  wp_put (I' := (sI I o (upd (I o) 4 x))) (J' := J) X hs (by decide) rfl in_X5 tyX5 tyX5_ok nmX5 4 (by decide) rfl fl_X10_284 rfl rfl rfl (Nat.le_of_ble_eq_true rfl) (by rw [fs_5_4, ← cel_o hs (by decide), wd_setI]) hd (k _ rfl)
theorem fl_X10_290 : Cond.fieldLink RX10 290 RX2 (TX2 0).2.1 (TX2 0).2.2.1 ∈ TT := TT_at 372 (by decide +kernel) rfl
theorem gf_X10_290 {Γ : Ctx} {cc : ByteArray} {nL d pc : Nat} {L : List (Nat × Value)} {st : List Value} {I : MI} {J : MJ} {o n : Nat} (X : Cx Γ cc nL RX10 d) (hs : shp[o]? = some (2, n)) (hd : decode cc pc = .ok (.getfield 290, 3)) (k : Wp Γ nL (pc + 3) L (.int (I o 0) :: st) I J) : Wp Γ nL pc L (.ref (ad Γ o) :: st) I J := wp_get X hs (by decide) rfl in_X2 0 (by decide) rfl fl_X10_290 rfl hd k
theorem fs_2_0 {ad : Nat → Nat} {f : Nat → Int32} {h : Nat → Int64} {o : Nat} {x : Int32} : (flds ad 2 f h o).set 0 (.int x) = flds ad 2 (upd f 0 x) h o := by simp [flds, upd, vp_updL]
theorem pf_X10_290 {Γ : Ctx} {cc : ByteArray} {nL d pc : Nat} {L : List (Nat × Value)} {st : List Value} {I : MI} {J : MJ} {o n : Nat} {x : Int32} (X : Cx Γ cc nL RX10 d) (hs : shp[o]? = some (2, n)) (hd : decode cc pc = .ok (.putfield 290, 3)) (k : ∀ I' : MI, I' = (sI I o (upd (I o) 0 x)) → Wp Γ nL (pc + 3) L st I' J) : Wp Γ nL pc L (.int x :: .ref (ad Γ o) :: st) I J :=
  wp_put (I' := (sI I o (upd (I o) 0 x))) (J' := J) X hs (by decide) rfl in_X2 tyX2 tyX2_ok nmX2 0 (by decide) rfl fl_X10_290 rfl rfl rfl (Nat.le_of_ble_eq_true rfl) (by rw [fs_2_0, ← cel_o hs (by decide), wd_setI]) hd (k _ rfl)
theorem fl_X10_304 : Cond.fieldLink RX10 304 RX4 (TX4 5).2.1 (TX4 5).2.2.1 ∈ TT := TT_at 415 (by decide +kernel) rfl
theorem gf_X10_304 {Γ : Ctx} {cc : ByteArray} {nL d pc : Nat} {L : List (Nat × Value)} {st : List Value} {I : MI} {J : MJ} {o n : Nat} (X : Cx Γ cc nL RX10 d) (hs : shp[o]? = some (4, n)) (hd : decode cc pc = .ok (.getfield 304, 3)) (k : Wp Γ nL (pc + 3) L (.int (I o 5) :: st) I J) : Wp Γ nL pc L (.ref (ad Γ o) :: st) I J := wp_get X hs (by decide) rfl in_X4 5 (by decide) rfl fl_X10_304 rfl hd k
theorem fs_4_5 {ad : Nat → Nat} {f : Nat → Int32} {h : Nat → Int64} {o : Nat} {x : Int32} : (flds ad 4 f h o).set 5 (.int x) = flds ad 4 (upd f 5 x) h o := by simp [flds, upd, vp_updL]
theorem pf_X10_304 {Γ : Ctx} {cc : ByteArray} {nL d pc : Nat} {L : List (Nat × Value)} {st : List Value} {I : MI} {J : MJ} {o n : Nat} {x : Int32} (X : Cx Γ cc nL RX10 d) (hs : shp[o]? = some (4, n)) (hz : x = 0 ∨ x = 1) (hd : decode cc pc = .ok (.putfield 304, 3)) (k : ∀ I' : MI, I' = (sI I o (upd (I o) 5 x)) → Wp Γ nL (pc + 3) L st I' J) : Wp Γ nL pc L (.int x :: .ref (ad Γ o) :: st) I J :=
  wp_put (I' := (sI I o (upd (I o) 5 x))) (J' := J) X hs (by decide) rfl in_X4 tyX4 tyX4_ok nmX4 5 (by decide) rfl fl_X10_304 rfl (by rcases hz with rfl | rfl <;> decide) (by rcases hz with rfl | rfl <;> decide) (Nat.le_of_ble_eq_true rfl) (by rw [fs_4_5, ← cel_o hs (by decide), wd_setI]) hd (k _ rfl)
theorem fl_X10_307 : Cond.fieldLink RX10 307 RX4 (TX4 6).2.1 (TX4 6).2.2.1 ∈ TT := TT_at 416 (by decide +kernel) rfl
theorem gf_X10_307 {Γ : Ctx} {cc : ByteArray} {nL d pc : Nat} {L : List (Nat × Value)} {st : List Value} {I : MI} {J : MJ} {o n : Nat} (X : Cx Γ cc nL RX10 d) (hs : shp[o]? = some (4, n)) (hd : decode cc pc = .ok (.getfield 307, 3)) (k : Wp Γ nL (pc + 3) L (.int (I o 6) :: st) I J) : Wp Γ nL pc L (.ref (ad Γ o) :: st) I J := wp_get X hs (by decide) rfl in_X4 6 (by decide) rfl fl_X10_307 rfl hd k
theorem fs_4_6 {ad : Nat → Nat} {f : Nat → Int32} {h : Nat → Int64} {o : Nat} {x : Int32} : (flds ad 4 f h o).set 6 (.int x) = flds ad 4 (upd f 6 x) h o := by simp [flds, upd, vp_updL]
theorem pf_X10_307 {Γ : Ctx} {cc : ByteArray} {nL d pc : Nat} {L : List (Nat × Value)} {st : List Value} {I : MI} {J : MJ} {o n : Nat} {x : Int32} (X : Cx Γ cc nL RX10 d) (hs : shp[o]? = some (4, n)) (hd : decode cc pc = .ok (.putfield 307, 3)) (k : ∀ I' : MI, I' = (sI I o (upd (I o) 6 x)) → Wp Γ nL (pc + 3) L st I' J) : Wp Γ nL pc L (.int x :: .ref (ad Γ o) :: st) I J :=
  wp_put (I' := (sI I o (upd (I o) 6 x))) (J' := J) X hs (by decide) rfl in_X4 tyX4 tyX4_ok nmX4 6 (by decide) rfl fl_X10_307 rfl rfl rfl (Nat.le_of_ble_eq_true rfl) (by rw [fs_4_6, ← cel_o hs (by decide), wd_setI]) hd (k _ rfl)
theorem fl_X10_313 : Cond.fieldLink RX10 313 RX3 (TX3 3).2.1 (TX3 3).2.2.1 ∈ TT := TT_at 213 (by decide +kernel) rfl
theorem gf_X10_313 {Γ : Ctx} {cc : ByteArray} {nL d pc : Nat} {L : List (Nat × Value)} {st : List Value} {I : MI} {J : MJ} {o n : Nat} {o' : Nat} (X : Cx Γ cc nL RX10 d) (hs : shp[o]? = some (3, n)) (ho : o + 1 = o') (hd : decode cc pc = .ok (.getfield 313, 3)) (k : Wp Γ nL (pc + 3) L (.ref (ad Γ o') :: st) I J) : Wp Γ nL pc L (.ref (ad Γ o) :: st) I J := wp_get X hs (by decide) rfl in_X3 3 (by decide) rfl fl_X10_313 (by subst ho; rfl) hd k
theorem fl_X10_316 : Cond.fieldLink RX10 316 RX1 (TX1 0).2.1 (TX1 0).2.2.1 ∈ TT := TT_at 243 (by decide +kernel) rfl
theorem gf_X10_316 {Γ : Ctx} {cc : ByteArray} {nL d pc : Nat} {L : List (Nat × Value)} {st : List Value} {I : MI} {J : MJ} {o n : Nat} {o' : Nat} (X : Cx Γ cc nL RX10 d) (hs : shp[o]? = some (1, n)) (ho : o + 1 = o') (hd : decode cc pc = .ok (.getfield 316, 3)) (k : Wp Γ nL (pc + 3) L (.ref (ad Γ o') :: st) I J) : Wp Γ nL pc L (.ref (ad Γ o) :: st) I J := wp_get X hs (by decide) rfl in_X1 0 (by decide) rfl fl_X10_316 (by subst ho; rfl) hd k
theorem fl_X10_319 : Cond.fieldLink RX10 319 RX1 (TX1 1).2.1 (TX1 1).2.2.1 ∈ TT := TT_at 245 (by decide +kernel) rfl
theorem gf_X10_319 {Γ : Ctx} {cc : ByteArray} {nL d pc : Nat} {L : List (Nat × Value)} {st : List Value} {I : MI} {J : MJ} {o n : Nat} {o' : Nat} (X : Cx Γ cc nL RX10 d) (hs : shp[o]? = some (1, n)) (ho : o + 6 = o') (hd : decode cc pc = .ok (.getfield 319, 3)) (k : Wp Γ nL (pc + 3) L (.ref (ad Γ o') :: st) I J) : Wp Γ nL pc L (.ref (ad Γ o) :: st) I J := wp_get X hs (by decide) rfl in_X1 1 (by decide) rfl fl_X10_319 (by subst ho; rfl) hd k
theorem fl_X10_340 : Cond.fieldLink RX10 340 RX6 (TX6 0).2.1 (TX6 0).2.2.1 ∈ TT := TT_at 282 (by decide +kernel) rfl
theorem gf_X10_340 {Γ : Ctx} {cc : ByteArray} {nL d pc : Nat} {L : List (Nat × Value)} {st : List Value} {I : MI} {J : MJ} {o n : Nat} {o' : Nat} (X : Cx Γ cc nL RX10 d) (hs : shp[o]? = some (6, n)) (ho : o + 1 = o') (hd : decode cc pc = .ok (.getfield 340, 3)) (k : Wp Γ nL (pc + 3) L (.ref (ad Γ o') :: st) I J) : Wp Γ nL pc L (.ref (ad Γ o) :: st) I J := wp_get X hs (by decide) rfl in_X6 0 (by decide) rfl fl_X10_340 (by subst ho; rfl) hd k
theorem fl_X0_9 : Cond.fieldLink RX0 9 RX0 (TX0 3).2.1 (TX0 3).2.2.1 ∈ TT := TT_at 143 (by decide +kernel) rfl
theorem gf_X0_9 {Γ : Ctx} {cc : ByteArray} {nL d pc : Nat} {L : List (Nat × Value)} {st : List Value} {I : MI} {J : MJ} {o n : Nat} {o' : Nat} (X : Cx Γ cc nL RX0 d) (hs : shp[o]? = some (0, n)) (ho : o + 1 = o') (hd : decode cc pc = .ok (.getfield 9, 3)) (k : Wp Γ nL (pc + 3) L (.ref (ad Γ o') :: st) I J) : Wp Γ nL pc L (.ref (ad Γ o) :: st) I J := wp_get X hs (by decide) rfl in_X0 3 (by decide) rfl fl_X0_9 (by subst ho; rfl) hd k
theorem fl_X0_15 : Cond.fieldLink RX0 15 RX0 (TX0 4).2.1 (TX0 4).2.2.1 ∈ TT := TT_at 144 (by decide +kernel) rfl
theorem gf_X0_15 {Γ : Ctx} {cc : ByteArray} {nL d pc : Nat} {L : List (Nat × Value)} {st : List Value} {I : MI} {J : MJ} {o n : Nat} {o' : Nat} (X : Cx Γ cc nL RX0 d) (hs : shp[o]? = some (0, n)) (ho : o + 2 = o') (hd : decode cc pc = .ok (.getfield 15, 3)) (k : Wp Γ nL (pc + 3) L (.ref (ad Γ o') :: st) I J) : Wp Γ nL pc L (.ref (ad Γ o) :: st) I J := wp_get X hs (by decide) rfl in_X0 4 (by decide) rfl fl_X0_15 (by subst ho; rfl) hd k
theorem fl_X0_18 : Cond.fieldLink RX0 18 RX0 (TX0 5).2.1 (TX0 5).2.2.1 ∈ TT := TT_at 145 (by decide +kernel) rfl
theorem gf_X0_18 {Γ : Ctx} {cc : ByteArray} {nL d pc : Nat} {L : List (Nat × Value)} {st : List Value} {I : MI} {J : MJ} {o n : Nat} {o' : Nat} (X : Cx Γ cc nL RX0 d) (hs : shp[o]? = some (0, n)) (ho : o + 3 = o') (hd : decode cc pc = .ok (.getfield 18, 3)) (k : Wp Γ nL (pc + 3) L (.ref (ad Γ o') :: st) I J) : Wp Γ nL pc L (.ref (ad Γ o) :: st) I J := wp_get X hs (by decide) rfl in_X0 5 (by decide) rfl fl_X0_18 (by subst ho; rfl) hd k
theorem fl_X0_21 : Cond.fieldLink RX0 21 RX0 (TX0 6).2.1 (TX0 6).2.2.1 ∈ TT := TT_at 146 (by decide +kernel) rfl
theorem gf_X0_21 {Γ : Ctx} {cc : ByteArray} {nL d pc : Nat} {L : List (Nat × Value)} {st : List Value} {I : MI} {J : MJ} {o n : Nat} {o' : Nat} (X : Cx Γ cc nL RX0 d) (hs : shp[o]? = some (0, n)) (ho : o + 4 = o') (hd : decode cc pc = .ok (.getfield 21, 3)) (k : Wp Γ nL (pc + 3) L (.ref (ad Γ o') :: st) I J) : Wp Γ nL pc L (.ref (ad Γ o) :: st) I J := wp_get X hs (by decide) rfl in_X0 6 (by decide) rfl fl_X0_21 (by subst ho; rfl) hd k
theorem fl_X0_25 : Cond.fieldLink RX0 25 RX0 (TX0 7).2.1 (TX0 7).2.2.1 ∈ TT := TT_at 147 (by decide +kernel) rfl
theorem gf_X0_25 {Γ : Ctx} {cc : ByteArray} {nL d pc : Nat} {L : List (Nat × Value)} {st : List Value} {I : MI} {J : MJ} {o n : Nat} {o' : Nat} (X : Cx Γ cc nL RX0 d) (hs : shp[o]? = some (0, n)) (ho : o + 5 = o') (hd : decode cc pc = .ok (.getfield 25, 3)) (k : Wp Γ nL (pc + 3) L (.ref (ad Γ o') :: st) I J) : Wp Γ nL pc L (.ref (ad Γ o) :: st) I J := wp_get X hs (by decide) rfl in_X0 7 (by decide) rfl fl_X0_25 (by subst ho; rfl) hd k
theorem fl_X0_28 : Cond.fieldLink RX0 28 RX0 (TX0 8).2.1 (TX0 8).2.2.1 ∈ TT := TT_at 148 (by decide +kernel) rfl
theorem gf_X0_28 {Γ : Ctx} {cc : ByteArray} {nL d pc : Nat} {L : List (Nat × Value)} {st : List Value} {I : MI} {J : MJ} {o n : Nat} {o' : Nat} (X : Cx Γ cc nL RX0 d) (hs : shp[o]? = some (0, n)) (ho : o + 6 = o') (hd : decode cc pc = .ok (.getfield 28, 3)) (k : Wp Γ nL (pc + 3) L (.ref (ad Γ o') :: st) I J) : Wp Γ nL pc L (.ref (ad Γ o) :: st) I J := wp_get X hs (by decide) rfl in_X0 8 (by decide) rfl fl_X0_28 (by subst ho; rfl) hd k
theorem fl_X0_31 : Cond.fieldLink RX0 31 RX0 (TX0 9).2.1 (TX0 9).2.2.1 ∈ TT := TT_at 149 (by decide +kernel) rfl
theorem gf_X0_31 {Γ : Ctx} {cc : ByteArray} {nL d pc : Nat} {L : List (Nat × Value)} {st : List Value} {I : MI} {J : MJ} {o n : Nat} {o' : Nat} (X : Cx Γ cc nL RX0 d) (hs : shp[o]? = some (0, n)) (ho : o + 7 = o') (hd : decode cc pc = .ok (.getfield 31, 3)) (k : Wp Γ nL (pc + 3) L (.ref (ad Γ o') :: st) I J) : Wp Γ nL pc L (.ref (ad Γ o) :: st) I J := wp_get X hs (by decide) rfl in_X0 9 (by decide) rfl fl_X0_31 (by subst ho; rfl) hd k
theorem fl_X0_34 : Cond.fieldLink RX0 34 RX0 (TX0 10).2.1 (TX0 10).2.2.1 ∈ TT := TT_at 150 (by decide +kernel) rfl
theorem gf_X0_34 {Γ : Ctx} {cc : ByteArray} {nL d pc : Nat} {L : List (Nat × Value)} {st : List Value} {I : MI} {J : MJ} {o n : Nat} {o' : Nat} (X : Cx Γ cc nL RX0 d) (hs : shp[o]? = some (0, n)) (ho : o + 8 = o') (hd : decode cc pc = .ok (.getfield 34, 3)) (k : Wp Γ nL (pc + 3) L (.ref (ad Γ o') :: st) I J) : Wp Γ nL pc L (.ref (ad Γ o) :: st) I J := wp_get X hs (by decide) rfl in_X0 10 (by decide) rfl fl_X0_34 (by subst ho; rfl) hd k
theorem fl_X0_37 : Cond.fieldLink RX0 37 RX0 (TX0 11).2.1 (TX0 11).2.2.1 ∈ TT := TT_at 151 (by decide +kernel) rfl
theorem gf_X0_37 {Γ : Ctx} {cc : ByteArray} {nL d pc : Nat} {L : List (Nat × Value)} {st : List Value} {I : MI} {J : MJ} {o n : Nat} {o' : Nat} (X : Cx Γ cc nL RX0 d) (hs : shp[o]? = some (0, n)) (ho : o + 9 = o') (hd : decode cc pc = .ok (.getfield 37, 3)) (k : Wp Γ nL (pc + 3) L (.ref (ad Γ o') :: st) I J) : Wp Γ nL pc L (.ref (ad Γ o) :: st) I J := wp_get X hs (by decide) rfl in_X0 11 (by decide) rfl fl_X0_37 (by subst ho; rfl) hd k
theorem fl_X0_40 : Cond.fieldLink RX0 40 RX0 (TX0 0).2.1 (TX0 0).2.2.1 ∈ TT := TT_at 140 (by decide +kernel) rfl
theorem gf_X0_40 {Γ : Ctx} {cc : ByteArray} {nL d pc : Nat} {L : List (Nat × Value)} {st : List Value} {I : MI} {J : MJ} {o n : Nat} (X : Cx Γ cc nL RX0 d) (hs : shp[o]? = some (0, n)) (hd : decode cc pc = .ok (.getfield 40, 3)) (k : Wp Γ nL (pc + 3) L (.int (I o 0) :: st) I J) : Wp Γ nL pc L (.ref (ad Γ o) :: st) I J := wp_get X hs (by decide) rfl in_X0 0 (by decide) rfl fl_X0_40 rfl hd k
theorem fs_0_0 {ad : Nat → Nat} {f : Nat → Int32} {h : Nat → Int64} {o : Nat} {x : Int32} : (flds ad 0 f h o).set 0 (.int x) = flds ad 0 (upd f 0 x) h o := by simp [flds, upd, vp_updL]
theorem pf_X0_40 {Γ : Ctx} {cc : ByteArray} {nL d pc : Nat} {L : List (Nat × Value)} {st : List Value} {I : MI} {J : MJ} {o n : Nat} {x : Int32} (X : Cx Γ cc nL RX0 d) (hs : shp[o]? = some (0, n)) (hd : decode cc pc = .ok (.putfield 40, 3)) (k : ∀ I' : MI, I' = (sI I o (upd (I o) 0 x)) → Wp Γ nL (pc + 3) L st I' J) : Wp Γ nL pc L (.int x :: .ref (ad Γ o) :: st) I J :=
  wp_put (I' := (sI I o (upd (I o) 0 x))) (J' := J) X hs (by decide) rfl in_X0 tyX0 tyX0_ok nmX0 0 (by decide) rfl fl_X0_40 rfl rfl rfl (Nat.le_of_ble_eq_true rfl) (by rw [fs_0_0, ← cel_o hs (by decide), wd_setI]) hd (k _ rfl)
theorem fl_X0_48 : Cond.fieldLink RX0 48 RX0 (TX0 1).2.1 (TX0 1).2.2.1 ∈ TT := TT_at 141 (by decide +kernel) rfl
theorem gf_X0_48 {Γ : Ctx} {cc : ByteArray} {nL d pc : Nat} {L : List (Nat × Value)} {st : List Value} {I : MI} {J : MJ} {o n : Nat} (X : Cx Γ cc nL RX0 d) (hs : shp[o]? = some (0, n)) (hd : decode cc pc = .ok (.getfield 48, 3)) (k : Wp Γ nL (pc + 3) L (.int (I o 1) :: st) I J) : Wp Γ nL pc L (.ref (ad Γ o) :: st) I J := wp_get X hs (by decide) rfl in_X0 1 (by decide) rfl fl_X0_48 rfl hd k
theorem fs_0_1 {ad : Nat → Nat} {f : Nat → Int32} {h : Nat → Int64} {o : Nat} {x : Int32} : (flds ad 0 f h o).set 1 (.int x) = flds ad 0 (upd f 1 x) h o := by simp [flds, upd, vp_updL]
theorem pf_X0_48 {Γ : Ctx} {cc : ByteArray} {nL d pc : Nat} {L : List (Nat × Value)} {st : List Value} {I : MI} {J : MJ} {o n : Nat} {x : Int32} (X : Cx Γ cc nL RX0 d) (hs : shp[o]? = some (0, n)) (hd : decode cc pc = .ok (.putfield 48, 3)) (k : ∀ I' : MI, I' = (sI I o (upd (I o) 1 x)) → Wp Γ nL (pc + 3) L st I' J) : Wp Γ nL pc L (.int x :: .ref (ad Γ o) :: st) I J :=
  wp_put (I' := (sI I o (upd (I o) 1 x))) (J' := J) X hs (by decide) rfl in_X0 tyX0 tyX0_ok nmX0 1 (by decide) rfl fl_X0_48 rfl rfl rfl (Nat.le_of_ble_eq_true rfl) (by rw [fs_0_1, ← cel_o hs (by decide), wd_setI]) hd (k _ rfl)
theorem fl_X0_68 : Cond.fieldLink RX0 68 RX3 (TX3 0).2.1 (TX3 0).2.2.1 ∈ TT := TT_at 196 (by decide +kernel) rfl
theorem gf_X0_68 {Γ : Ctx} {cc : ByteArray} {nL d pc : Nat} {L : List (Nat × Value)} {st : List Value} {I : MI} {J : MJ} {o n : Nat} (X : Cx Γ cc nL RX0 d) (hs : shp[o]? = some (3, n)) (hd : decode cc pc = .ok (.getfield 68, 3)) (k : Wp Γ nL (pc + 3) L (.int (I o 0) :: st) I J) : Wp Γ nL pc L (.ref (ad Γ o) :: st) I J := wp_get X hs (by decide) rfl in_X3 0 (by decide) rfl fl_X0_68 rfl hd k
theorem pf_X0_68 {Γ : Ctx} {cc : ByteArray} {nL d pc : Nat} {L : List (Nat × Value)} {st : List Value} {I : MI} {J : MJ} {o n : Nat} {x : Int32} (X : Cx Γ cc nL RX0 d) (hs : shp[o]? = some (3, n)) (hd : decode cc pc = .ok (.putfield 68, 3)) (k : ∀ I' : MI, I' = (sI I o (upd (I o) 0 x)) → Wp Γ nL (pc + 3) L st I' J) : Wp Γ nL pc L (.int x :: .ref (ad Γ o) :: st) I J :=
  wp_put (I' := (sI I o (upd (I o) 0 x))) (J' := J) X hs (by decide) rfl in_X3 tyX3 tyX3_ok nmX3 0 (by decide) rfl fl_X0_68 rfl rfl rfl (Nat.le_of_ble_eq_true rfl) (by rw [fs_3_0, ← cel_o hs (by decide), wd_setI]) hd (k _ rfl)
theorem fl_X0_73 : Cond.fieldLink RX0 73 RX3 (TX3 2).2.1 (TX3 2).2.2.1 ∈ TT := TT_at 209 (by decide +kernel) rfl
theorem gf_X0_73 {Γ : Ctx} {cc : ByteArray} {nL d pc : Nat} {L : List (Nat × Value)} {st : List Value} {I : MI} {J : MJ} {o n : Nat} (X : Cx Γ cc nL RX0 d) (hs : shp[o]? = some (3, n)) (hd : decode cc pc = .ok (.getfield 73, 3)) (k : Wp Γ nL (pc + 3) L (.int (I o 2) :: st) I J) : Wp Γ nL pc L (.ref (ad Γ o) :: st) I J := wp_get X hs (by decide) rfl in_X3 2 (by decide) rfl fl_X0_73 rfl hd k
theorem pf_X0_73 {Γ : Ctx} {cc : ByteArray} {nL d pc : Nat} {L : List (Nat × Value)} {st : List Value} {I : MI} {J : MJ} {o n : Nat} {x : Int32} (X : Cx Γ cc nL RX0 d) (hs : shp[o]? = some (3, n)) (hd : decode cc pc = .ok (.putfield 73, 3)) (k : ∀ I' : MI, I' = (sI I o (upd (I o) 2 x)) → Wp Γ nL (pc + 3) L st I' J) : Wp Γ nL pc L (.int x :: .ref (ad Γ o) :: st) I J :=
  wp_put (I' := (sI I o (upd (I o) 2 x))) (J' := J) X hs (by decide) rfl in_X3 tyX3 tyX3_ok nmX3 2 (by decide) rfl fl_X0_73 rfl rfl rfl (Nat.le_of_ble_eq_true rfl) (by rw [fs_3_2, ← cel_o hs (by decide), wd_setI]) hd (k _ rfl)
theorem fl_X0_80 : Cond.fieldLink RX0 80 RX0 (TX0 2).2.1 (TX0 2).2.2.1 ∈ TT := TT_at 142 (by decide +kernel) rfl
theorem gf_X0_80 {Γ : Ctx} {cc : ByteArray} {nL d pc : Nat} {L : List (Nat × Value)} {st : List Value} {I : MI} {J : MJ} {o n : Nat} (X : Cx Γ cc nL RX0 d) (hs : shp[o]? = some (0, n)) (hd : decode cc pc = .ok (.getfield 80, 3)) (k : Wp Γ nL (pc + 3) L (.int (I o 2) :: st) I J) : Wp Γ nL pc L (.ref (ad Γ o) :: st) I J := wp_get X hs (by decide) rfl in_X0 2 (by decide) rfl fl_X0_80 rfl hd k
theorem fs_0_2 {ad : Nat → Nat} {f : Nat → Int32} {h : Nat → Int64} {o : Nat} {x : Int32} : (flds ad 0 f h o).set 2 (.int x) = flds ad 0 (upd f 2 x) h o := by simp [flds, upd, vp_updL]
theorem pf_X0_80 {Γ : Ctx} {cc : ByteArray} {nL d pc : Nat} {L : List (Nat × Value)} {st : List Value} {I : MI} {J : MJ} {o n : Nat} {x : Int32} (X : Cx Γ cc nL RX0 d) (hs : shp[o]? = some (0, n)) (hd : decode cc pc = .ok (.putfield 80, 3)) (k : ∀ I' : MI, I' = (sI I o (upd (I o) 2 x)) → Wp Γ nL (pc + 3) L st I' J) : Wp Γ nL pc L (.int x :: .ref (ad Γ o) :: st) I J :=
  wp_put (I' := (sI I o (upd (I o) 2 x))) (J' := J) X hs (by decide) rfl in_X0 tyX0 tyX0_ok nmX0 2 (by decide) rfl fl_X0_80 rfl rfl rfl (Nat.le_of_ble_eq_true rfl) (by rw [fs_0_2, ← cel_o hs (by decide), wd_setI]) hd (k _ rfl)
theorem fl_X0_108 : Cond.fieldLink RX0 108 RX3 (TX3 1).2.1 (TX3 1).2.2.1 ∈ TT := TT_at 204 (by decide +kernel) rfl
theorem gf_X0_108 {Γ : Ctx} {cc : ByteArray} {nL d pc : Nat} {L : List (Nat × Value)} {st : List Value} {I : MI} {J : MJ} {o n : Nat} (X : Cx Γ cc nL RX0 d) (hs : shp[o]? = some (3, n)) (hd : decode cc pc = .ok (.getfield 108, 3)) (k : Wp Γ nL (pc + 3) L (.int (I o 1) :: st) I J) : Wp Γ nL pc L (.ref (ad Γ o) :: st) I J := wp_get X hs (by decide) rfl in_X3 1 (by decide) rfl fl_X0_108 rfl hd k
theorem pf_X0_108 {Γ : Ctx} {cc : ByteArray} {nL d pc : Nat} {L : List (Nat × Value)} {st : List Value} {I : MI} {J : MJ} {o n : Nat} {x : Int32} (X : Cx Γ cc nL RX0 d) (hs : shp[o]? = some (3, n)) (hd : decode cc pc = .ok (.putfield 108, 3)) (k : ∀ I' : MI, I' = (sI I o (upd (I o) 1 x)) → Wp Γ nL (pc + 3) L st I' J) : Wp Γ nL pc L (.int x :: .ref (ad Γ o) :: st) I J :=
  wp_put (I' := (sI I o (upd (I o) 1 x))) (J' := J) X hs (by decide) rfl in_X3 tyX3 tyX3_ok nmX3 1 (by decide) rfl fl_X0_108 rfl rfl rfl (Nat.le_of_ble_eq_true rfl) (by rw [fs_3_1, ← cel_o hs (by decide), wd_setI]) hd (k _ rfl)
theorem fl_X0_111 : Cond.fieldLink RX0 111 RX3 (TX3 6).2.1 (TX3 6).2.2.1 ∈ TT := TT_at 225 (by decide +kernel) rfl
theorem gf_X0_111 {Γ : Ctx} {cc : ByteArray} {nL d pc : Nat} {L : List (Nat × Value)} {st : List Value} {I : MI} {J : MJ} {o n : Nat} {o' : Nat} (X : Cx Γ cc nL RX0 d) (hs : shp[o]? = some (3, n)) (ho : o + 4 = o') (hd : decode cc pc = .ok (.getfield 111, 3)) (k : Wp Γ nL (pc + 3) L (.ref (ad Γ o') :: st) I J) : Wp Γ nL pc L (.ref (ad Γ o) :: st) I J := wp_get X hs (by decide) rfl in_X3 6 (by decide) rfl fl_X0_111 (by subst ho; rfl) hd k
theorem fl_X0_112 : Cond.fieldLink RX0 112 RX3 (TX3 4).2.1 (TX3 4).2.2.1 ∈ TT := TT_at 217 (by decide +kernel) rfl
theorem gf_X0_112 {Γ : Ctx} {cc : ByteArray} {nL d pc : Nat} {L : List (Nat × Value)} {st : List Value} {I : MI} {J : MJ} {o n : Nat} {o' : Nat} (X : Cx Γ cc nL RX0 d) (hs : shp[o]? = some (3, n)) (ho : o + 2 = o') (hd : decode cc pc = .ok (.getfield 112, 3)) (k : Wp Γ nL (pc + 3) L (.ref (ad Γ o') :: st) I J) : Wp Γ nL pc L (.ref (ad Γ o) :: st) I J := wp_get X hs (by decide) rfl in_X3 4 (by decide) rfl fl_X0_112 (by subst ho; rfl) hd k
theorem fl_X1_12 : Cond.fieldLink RX1 12 RX1 (TX1 0).2.1 (TX1 0).2.2.1 ∈ TT := TT_at 242 (by decide +kernel) rfl
theorem gf_X1_12 {Γ : Ctx} {cc : ByteArray} {nL d pc : Nat} {L : List (Nat × Value)} {st : List Value} {I : MI} {J : MJ} {o n : Nat} {o' : Nat} (X : Cx Γ cc nL RX1 d) (hs : shp[o]? = some (1, n)) (ho : o + 1 = o') (hd : decode cc pc = .ok (.getfield 12, 3)) (k : Wp Γ nL (pc + 3) L (.ref (ad Γ o') :: st) I J) : Wp Γ nL pc L (.ref (ad Γ o) :: st) I J := wp_get X hs (by decide) rfl in_X1 0 (by decide) rfl fl_X1_12 (by subst ho; rfl) hd k
theorem fl_X1_18 : Cond.fieldLink RX1 18 RX1 (TX1 1).2.1 (TX1 1).2.2.1 ∈ TT := TT_at 244 (by decide +kernel) rfl
theorem gf_X1_18 {Γ : Ctx} {cc : ByteArray} {nL d pc : Nat} {L : List (Nat × Value)} {st : List Value} {I : MI} {J : MJ} {o n : Nat} {o' : Nat} (X : Cx Γ cc nL RX1 d) (hs : shp[o]? = some (1, n)) (ho : o + 6 = o') (hd : decode cc pc = .ok (.getfield 18, 3)) (k : Wp Γ nL (pc + 3) L (.ref (ad Γ o') :: st) I J) : Wp Γ nL pc L (.ref (ad Γ o) :: st) I J := wp_get X hs (by decide) rfl in_X1 1 (by decide) rfl fl_X1_18 (by subst ho; rfl) hd k
theorem fl_X1_21 : Cond.fieldLink RX1 21 RX1 (TX1 2).2.1 (TX1 2).2.2.1 ∈ TT := TT_at 246 (by decide +kernel) rfl
theorem gf_X1_21 {Γ : Ctx} {cc : ByteArray} {nL d pc : Nat} {L : List (Nat × Value)} {st : List Value} {I : MI} {J : MJ} {o n : Nat} (X : Cx Γ cc nL RX1 d) (hs : shp[o]? = some (1, n)) (hd : decode cc pc = .ok (.getfield 21, 3)) (k : Wp Γ nL (pc + 3) L (.int (I o 2) :: st) I J) : Wp Γ nL pc L (.ref (ad Γ o) :: st) I J := wp_get X hs (by decide) rfl in_X1 2 (by decide) rfl fl_X1_21 rfl hd k
theorem fs_1_2 {ad : Nat → Nat} {f : Nat → Int32} {h : Nat → Int64} {o : Nat} {x : Int32} : (flds ad 1 f h o).set 2 (.int x) = flds ad 1 (upd f 2 x) h o := by simp [flds, upd, vp_updL]
theorem pf_X1_21 {Γ : Ctx} {cc : ByteArray} {nL d pc : Nat} {L : List (Nat × Value)} {st : List Value} {I : MI} {J : MJ} {o n : Nat} {x : Int32} (X : Cx Γ cc nL RX1 d) (hs : shp[o]? = some (1, n)) (hd : decode cc pc = .ok (.putfield 21, 3)) (k : ∀ I' : MI, I' = (sI I o (upd (I o) 2 x)) → Wp Γ nL (pc + 3) L st I' J) : Wp Γ nL pc L (.int x :: .ref (ad Γ o) :: st) I J :=
  wp_put (I' := (sI I o (upd (I o) 2 x))) (J' := J) X hs (by decide) rfl in_X1 tyX1 tyX1_ok nmX1 2 (by decide) rfl fl_X1_21 rfl rfl rfl (Nat.le_of_ble_eq_true rfl) (by rw [fs_1_2, ← cel_o hs (by decide), wd_setI]) hd (k _ rfl)
theorem fl_X1_29 : Cond.fieldLink RX1 29 RX1 (TX1 3).2.1 (TX1 3).2.2.1 ∈ TT := TT_at 247 (by decide +kernel) rfl
theorem gf_X1_29 {Γ : Ctx} {cc : ByteArray} {nL d pc : Nat} {L : List (Nat × Value)} {st : List Value} {I : MI} {J : MJ} {o n : Nat} (X : Cx Γ cc nL RX1 d) (hs : shp[o]? = some (1, n)) (hd : decode cc pc = .ok (.getfield 29, 3)) (k : Wp Γ nL (pc + 3) L (.int (I o 3) :: st) I J) : Wp Γ nL pc L (.ref (ad Γ o) :: st) I J := wp_get X hs (by decide) rfl in_X1 3 (by decide) rfl fl_X1_29 rfl hd k
theorem fs_1_3 {ad : Nat → Nat} {f : Nat → Int32} {h : Nat → Int64} {o : Nat} {x : Int32} : (flds ad 1 f h o).set 3 (.int x) = flds ad 1 (upd f 3 x) h o := by simp [flds, upd, vp_updL]
theorem pf_X1_29 {Γ : Ctx} {cc : ByteArray} {nL d pc : Nat} {L : List (Nat × Value)} {st : List Value} {I : MI} {J : MJ} {o n : Nat} {x : Int32} (X : Cx Γ cc nL RX1 d) (hs : shp[o]? = some (1, n)) (hd : decode cc pc = .ok (.putfield 29, 3)) (k : ∀ I' : MI, I' = (sI I o (upd (I o) 3 x)) → Wp Γ nL (pc + 3) L st I' J) : Wp Γ nL pc L (.int x :: .ref (ad Γ o) :: st) I J :=
  wp_put (I' := (sI I o (upd (I o) 3 x))) (J' := J) X hs (by decide) rfl in_X1 tyX1 tyX1_ok nmX1 3 (by decide) rfl fl_X1_29 rfl rfl rfl (Nat.le_of_ble_eq_true rfl) (by rw [fs_1_3, ← cel_o hs (by decide), wd_setI]) hd (k _ rfl)
theorem fl_X1_32 : Cond.fieldLink RX1 32 RX1 (TX1 4).2.1 (TX1 4).2.2.1 ∈ TT := TT_at 248 (by decide +kernel) rfl
theorem gf_X1_32 {Γ : Ctx} {cc : ByteArray} {nL d pc : Nat} {L : List (Nat × Value)} {st : List Value} {I : MI} {J : MJ} {o n : Nat} (X : Cx Γ cc nL RX1 d) (hs : shp[o]? = some (1, n)) (hd : decode cc pc = .ok (.getfield 32, 3)) (k : Wp Γ nL (pc + 3) L (.int (I o 4) :: st) I J) : Wp Γ nL pc L (.ref (ad Γ o) :: st) I J := wp_get X hs (by decide) rfl in_X1 4 (by decide) rfl fl_X1_32 rfl hd k
theorem fs_1_4 {ad : Nat → Nat} {f : Nat → Int32} {h : Nat → Int64} {o : Nat} {x : Int32} : (flds ad 1 f h o).set 4 (.int x) = flds ad 1 (upd f 4 x) h o := by simp [flds, upd, vp_updL]
theorem pf_X1_32 {Γ : Ctx} {cc : ByteArray} {nL d pc : Nat} {L : List (Nat × Value)} {st : List Value} {I : MI} {J : MJ} {o n : Nat} {x : Int32} (X : Cx Γ cc nL RX1 d) (hs : shp[o]? = some (1, n)) (hd : decode cc pc = .ok (.putfield 32, 3)) (k : ∀ I' : MI, I' = (sI I o (upd (I o) 4 x)) → Wp Γ nL (pc + 3) L st I' J) : Wp Γ nL pc L (.int x :: .ref (ad Γ o) :: st) I J :=
  wp_put (I' := (sI I o (upd (I o) 4 x))) (J' := J) X hs (by decide) rfl in_X1 tyX1 tyX1_ok nmX1 4 (by decide) rfl fl_X1_32 rfl rfl rfl (Nat.le_of_ble_eq_true rfl) (by rw [fs_1_4, ← cel_o hs (by decide), wd_setI]) hd (k _ rfl)
theorem fl_X1_35 : Cond.fieldLink RX1 35 RX3 (TX3 1).2.1 (TX3 1).2.2.1 ∈ TT := TT_at 199 (by decide +kernel) rfl
theorem gf_X1_35 {Γ : Ctx} {cc : ByteArray} {nL d pc : Nat} {L : List (Nat × Value)} {st : List Value} {I : MI} {J : MJ} {o n : Nat} (X : Cx Γ cc nL RX1 d) (hs : shp[o]? = some (3, n)) (hd : decode cc pc = .ok (.getfield 35, 3)) (k : Wp Γ nL (pc + 3) L (.int (I o 1) :: st) I J) : Wp Γ nL pc L (.ref (ad Γ o) :: st) I J := wp_get X hs (by decide) rfl in_X3 1 (by decide) rfl fl_X1_35 rfl hd k
theorem pf_X1_35 {Γ : Ctx} {cc : ByteArray} {nL d pc : Nat} {L : List (Nat × Value)} {st : List Value} {I : MI} {J : MJ} {o n : Nat} {x : Int32} (X : Cx Γ cc nL RX1 d) (hs : shp[o]? = some (3, n)) (hd : decode cc pc = .ok (.putfield 35, 3)) (k : ∀ I' : MI, I' = (sI I o (upd (I o) 1 x)) → Wp Γ nL (pc + 3) L st I' J) : Wp Γ nL pc L (.int x :: .ref (ad Γ o) :: st) I J :=
  wp_put (I' := (sI I o (upd (I o) 1 x))) (J' := J) X hs (by decide) rfl in_X3 tyX3 tyX3_ok nmX3 1 (by decide) rfl fl_X1_35 rfl rfl rfl (Nat.le_of_ble_eq_true rfl) (by rw [fs_3_1, ← cel_o hs (by decide), wd_setI]) hd (k _ rfl)
theorem fl_X1_38 : Cond.fieldLink RX1 38 RX3 (TX3 6).2.1 (TX3 6).2.2.1 ∈ TT := TT_at 222 (by decide +kernel) rfl
theorem gf_X1_38 {Γ : Ctx} {cc : ByteArray} {nL d pc : Nat} {L : List (Nat × Value)} {st : List Value} {I : MI} {J : MJ} {o n : Nat} {o' : Nat} (X : Cx Γ cc nL RX1 d) (hs : shp[o]? = some (3, n)) (ho : o + 4 = o') (hd : decode cc pc = .ok (.getfield 38, 3)) (k : Wp Γ nL (pc + 3) L (.ref (ad Γ o') :: st) I J) : Wp Γ nL pc L (.ref (ad Γ o) :: st) I J := wp_get X hs (by decide) rfl in_X3 6 (by decide) rfl fl_X1_38 (by subst ho; rfl) hd k
theorem fl_X1_42 : Cond.fieldLink RX1 42 RX3 (TX3 2).2.1 (TX3 2).2.2.1 ∈ TT := TT_at 208 (by decide +kernel) rfl
theorem gf_X1_42 {Γ : Ctx} {cc : ByteArray} {nL d pc : Nat} {L : List (Nat × Value)} {st : List Value} {I : MI} {J : MJ} {o n : Nat} (X : Cx Γ cc nL RX1 d) (hs : shp[o]? = some (3, n)) (hd : decode cc pc = .ok (.getfield 42, 3)) (k : Wp Γ nL (pc + 3) L (.int (I o 2) :: st) I J) : Wp Γ nL pc L (.ref (ad Γ o) :: st) I J := wp_get X hs (by decide) rfl in_X3 2 (by decide) rfl fl_X1_42 rfl hd k
theorem pf_X1_42 {Γ : Ctx} {cc : ByteArray} {nL d pc : Nat} {L : List (Nat × Value)} {st : List Value} {I : MI} {J : MJ} {o n : Nat} {x : Int32} (X : Cx Γ cc nL RX1 d) (hs : shp[o]? = some (3, n)) (hd : decode cc pc = .ok (.putfield 42, 3)) (k : ∀ I' : MI, I' = (sI I o (upd (I o) 2 x)) → Wp Γ nL (pc + 3) L st I' J) : Wp Γ nL pc L (.int x :: .ref (ad Γ o) :: st) I J :=
  wp_put (I' := (sI I o (upd (I o) 2 x))) (J' := J) X hs (by decide) rfl in_X3 tyX3 tyX3_ok nmX3 2 (by decide) rfl fl_X1_42 rfl rfl rfl (Nat.le_of_ble_eq_true rfl) (by rw [fs_3_2, ← cel_o hs (by decide), wd_setI]) hd (k _ rfl)
theorem fl_X2_9 : Cond.fieldLink RX2 9 RX2 (TX2 1).2.1 (TX2 1).2.2.1 ∈ TT := TT_at 373 (by decide +kernel) rfl
theorem gf_X2_9 {Γ : Ctx} {cc : ByteArray} {nL d pc : Nat} {L : List (Nat × Value)} {st : List Value} {I : MI} {J : MJ} {o n : Nat} {o' : Nat} (X : Cx Γ cc nL RX2 d) (hs : shp[o]? = some (2, n)) (ho : o + 1 = o') (hd : decode cc pc = .ok (.getfield 9, 3)) (k : Wp Γ nL (pc + 3) L (.ref (ad Γ o') :: st) I J) : Wp Γ nL pc L (.ref (ad Γ o) :: st) I J := wp_get X hs (by decide) rfl in_X2 1 (by decide) rfl fl_X2_9 (by subst ho; rfl) hd k
theorem fl_X2_15 : Cond.fieldLink RX2 15 RX2 (TX2 2).2.1 (TX2 2).2.2.1 ∈ TT := TT_at 374 (by decide +kernel) rfl
theorem gf_X2_15 {Γ : Ctx} {cc : ByteArray} {nL d pc : Nat} {L : List (Nat × Value)} {st : List Value} {I : MI} {J : MJ} {o n : Nat} {o' : Nat} (X : Cx Γ cc nL RX2 d) (hs : shp[o]? = some (2, n)) (ho : o + 2 = o') (hd : decode cc pc = .ok (.getfield 15, 3)) (k : Wp Γ nL (pc + 3) L (.ref (ad Γ o') :: st) I J) : Wp Γ nL pc L (.ref (ad Γ o) :: st) I J := wp_get X hs (by decide) rfl in_X2 2 (by decide) rfl fl_X2_15 (by subst ho; rfl) hd k
theorem fl_X2_19 : Cond.fieldLink RX2 19 RX2 (TX2 3).2.1 (TX2 3).2.2.1 ∈ TT := TT_at 375 (by decide +kernel) rfl
theorem gf_X2_19 {Γ : Ctx} {cc : ByteArray} {nL d pc : Nat} {L : List (Nat × Value)} {st : List Value} {I : MI} {J : MJ} {o n : Nat} {o' : Nat} (X : Cx Γ cc nL RX2 d) (hs : shp[o]? = some (2, n)) (ho : o + 3 = o') (hd : decode cc pc = .ok (.getfield 19, 3)) (k : Wp Γ nL (pc + 3) L (.ref (ad Γ o') :: st) I J) : Wp Γ nL pc L (.ref (ad Γ o) :: st) I J := wp_get X hs (by decide) rfl in_X2 3 (by decide) rfl fl_X2_19 (by subst ho; rfl) hd k
theorem fl_X2_22 : Cond.fieldLink RX2 22 RX2 (TX2 4).2.1 (TX2 4).2.2.1 ∈ TT := TT_at 376 (by decide +kernel) rfl
theorem gf_X2_22 {Γ : Ctx} {cc : ByteArray} {nL d pc : Nat} {L : List (Nat × Value)} {st : List Value} {I : MI} {J : MJ} {o n : Nat} {o' : Nat} (X : Cx Γ cc nL RX2 d) (hs : shp[o]? = some (2, n)) (ho : o + 4 = o') (hd : decode cc pc = .ok (.getfield 22, 3)) (k : Wp Γ nL (pc + 3) L (.ref (ad Γ o') :: st) I J) : Wp Γ nL pc L (.ref (ad Γ o) :: st) I J := wp_get X hs (by decide) rfl in_X2 4 (by decide) rfl fl_X2_22 (by subst ho; rfl) hd k
theorem fl_X2_25 : Cond.fieldLink RX2 25 RX2 (TX2 5).2.1 (TX2 5).2.2.1 ∈ TT := TT_at 377 (by decide +kernel) rfl
theorem gf_X2_25 {Γ : Ctx} {cc : ByteArray} {nL d pc : Nat} {L : List (Nat × Value)} {st : List Value} {I : MI} {J : MJ} {o n : Nat} {o' : Nat} (X : Cx Γ cc nL RX2 d) (hs : shp[o]? = some (2, n)) (ho : o + 5 = o') (hd : decode cc pc = .ok (.getfield 25, 3)) (k : Wp Γ nL (pc + 3) L (.ref (ad Γ o') :: st) I J) : Wp Γ nL pc L (.ref (ad Γ o) :: st) I J := wp_get X hs (by decide) rfl in_X2 5 (by decide) rfl fl_X2_25 (by subst ho; rfl) hd k
theorem fl_X2_28 : Cond.fieldLink RX2 28 RX2 (TX2 6).2.1 (TX2 6).2.2.1 ∈ TT := TT_at 378 (by decide +kernel) rfl
theorem gf_X2_28 {Γ : Ctx} {cc : ByteArray} {nL d pc : Nat} {L : List (Nat × Value)} {st : List Value} {I : MI} {J : MJ} {o n : Nat} {o' : Nat} (X : Cx Γ cc nL RX2 d) (hs : shp[o]? = some (2, n)) (ho : o + 6 = o') (hd : decode cc pc = .ok (.getfield 28, 3)) (k : Wp Γ nL (pc + 3) L (.ref (ad Γ o') :: st) I J) : Wp Γ nL pc L (.ref (ad Γ o) :: st) I J := wp_get X hs (by decide) rfl in_X2 6 (by decide) rfl fl_X2_28 (by subst ho; rfl) hd k
theorem fl_X2_31 : Cond.fieldLink RX2 31 RX2 (TX2 7).2.1 (TX2 7).2.2.1 ∈ TT := TT_at 379 (by decide +kernel) rfl
theorem gf_X2_31 {Γ : Ctx} {cc : ByteArray} {nL d pc : Nat} {L : List (Nat × Value)} {st : List Value} {I : MI} {J : MJ} {o n : Nat} {o' : Nat} (X : Cx Γ cc nL RX2 d) (hs : shp[o]? = some (2, n)) (ho : o + 7 = o') (hd : decode cc pc = .ok (.getfield 31, 3)) (k : Wp Γ nL (pc + 3) L (.ref (ad Γ o') :: st) I J) : Wp Γ nL pc L (.ref (ad Γ o) :: st) I J := wp_get X hs (by decide) rfl in_X2 7 (by decide) rfl fl_X2_31 (by subst ho; rfl) hd k
theorem fl_X2_34 : Cond.fieldLink RX2 34 RX2 (TX2 0).2.1 (TX2 0).2.2.1 ∈ TT := TT_at 371 (by decide +kernel) rfl
theorem gf_X2_34 {Γ : Ctx} {cc : ByteArray} {nL d pc : Nat} {L : List (Nat × Value)} {st : List Value} {I : MI} {J : MJ} {o n : Nat} (X : Cx Γ cc nL RX2 d) (hs : shp[o]? = some (2, n)) (hd : decode cc pc = .ok (.getfield 34, 3)) (k : Wp Γ nL (pc + 3) L (.int (I o 0) :: st) I J) : Wp Γ nL pc L (.ref (ad Γ o) :: st) I J := wp_get X hs (by decide) rfl in_X2 0 (by decide) rfl fl_X2_34 rfl hd k
theorem pf_X2_34 {Γ : Ctx} {cc : ByteArray} {nL d pc : Nat} {L : List (Nat × Value)} {st : List Value} {I : MI} {J : MJ} {o n : Nat} {x : Int32} (X : Cx Γ cc nL RX2 d) (hs : shp[o]? = some (2, n)) (hd : decode cc pc = .ok (.putfield 34, 3)) (k : ∀ I' : MI, I' = (sI I o (upd (I o) 0 x)) → Wp Γ nL (pc + 3) L st I' J) : Wp Γ nL pc L (.int x :: .ref (ad Γ o) :: st) I J :=
  wp_put (I' := (sI I o (upd (I o) 0 x))) (J' := J) X hs (by decide) rfl in_X2 tyX2 tyX2_ok nmX2 0 (by decide) rfl fl_X2_34 rfl rfl rfl (Nat.le_of_ble_eq_true rfl) (by rw [fs_2_0, ← cel_o hs (by decide), wd_setI]) hd (k _ rfl)
theorem fl_X2_112 : Cond.fieldLink RX2 112 RX3 (TX3 4).2.1 (TX3 4).2.2.1 ∈ TT := TT_at 218 (by decide +kernel) rfl
theorem gf_X2_112 {Γ : Ctx} {cc : ByteArray} {nL d pc : Nat} {L : List (Nat × Value)} {st : List Value} {I : MI} {J : MJ} {o n : Nat} {o' : Nat} (X : Cx Γ cc nL RX2 d) (hs : shp[o]? = some (3, n)) (ho : o + 2 = o') (hd : decode cc pc = .ok (.getfield 112, 3)) (k : Wp Γ nL (pc + 3) L (.ref (ad Γ o') :: st) I J) : Wp Γ nL pc L (.ref (ad Γ o) :: st) I J := wp_get X hs (by decide) rfl in_X3 4 (by decide) rfl fl_X2_112 (by subst ho; rfl) hd k
theorem fl_X2_115 : Cond.fieldLink RX2 115 RX3 (TX3 6).2.1 (TX3 6).2.2.1 ∈ TT := TT_at 226 (by decide +kernel) rfl
theorem gf_X2_115 {Γ : Ctx} {cc : ByteArray} {nL d pc : Nat} {L : List (Nat × Value)} {st : List Value} {I : MI} {J : MJ} {o n : Nat} {o' : Nat} (X : Cx Γ cc nL RX2 d) (hs : shp[o]? = some (3, n)) (ho : o + 4 = o') (hd : decode cc pc = .ok (.getfield 115, 3)) (k : Wp Γ nL (pc + 3) L (.ref (ad Γ o') :: st) I J) : Wp Γ nL pc L (.ref (ad Γ o) :: st) I J := wp_get X hs (by decide) rfl in_X3 6 (by decide) rfl fl_X2_115 (by subst ho; rfl) hd k
theorem fl_X3_9 : Cond.fieldLink RX3 9 RX3 (TX3 3).2.1 (TX3 3).2.2.1 ∈ TT := TT_at 212 (by decide +kernel) rfl
theorem gf_X3_9 {Γ : Ctx} {cc : ByteArray} {nL d pc : Nat} {L : List (Nat × Value)} {st : List Value} {I : MI} {J : MJ} {o n : Nat} {o' : Nat} (X : Cx Γ cc nL RX3 d) (hs : shp[o]? = some (3, n)) (ho : o + 1 = o') (hd : decode cc pc = .ok (.getfield 9, 3)) (k : Wp Γ nL (pc + 3) L (.ref (ad Γ o') :: st) I J) : Wp Γ nL pc L (.ref (ad Γ o) :: st) I J := wp_get X hs (by decide) rfl in_X3 3 (by decide) rfl fl_X3_9 (by subst ho; rfl) hd k
theorem fl_X3_15 : Cond.fieldLink RX3 15 RX3 (TX3 4).2.1 (TX3 4).2.2.1 ∈ TT := TT_at 214 (by decide +kernel) rfl
theorem gf_X3_15 {Γ : Ctx} {cc : ByteArray} {nL d pc : Nat} {L : List (Nat × Value)} {st : List Value} {I : MI} {J : MJ} {o n : Nat} {o' : Nat} (X : Cx Γ cc nL RX3 d) (hs : shp[o]? = some (3, n)) (ho : o + 2 = o') (hd : decode cc pc = .ok (.getfield 15, 3)) (k : Wp Γ nL (pc + 3) L (.ref (ad Γ o') :: st) I J) : Wp Γ nL pc L (.ref (ad Γ o) :: st) I J := wp_get X hs (by decide) rfl in_X3 4 (by decide) rfl fl_X3_15 (by subst ho; rfl) hd k
theorem fl_X3_18 : Cond.fieldLink RX3 18 RX3 (TX3 5).2.1 (TX3 5).2.2.1 ∈ TT := TT_at 219 (by decide +kernel) rfl
theorem gf_X3_18 {Γ : Ctx} {cc : ByteArray} {nL d pc : Nat} {L : List (Nat × Value)} {st : List Value} {I : MI} {J : MJ} {o n : Nat} {o' : Nat} (X : Cx Γ cc nL RX3 d) (hs : shp[o]? = some (3, n)) (ho : o + 3 = o') (hd : decode cc pc = .ok (.getfield 18, 3)) (k : Wp Γ nL (pc + 3) L (.ref (ad Γ o') :: st) I J) : Wp Γ nL pc L (.ref (ad Γ o) :: st) I J := wp_get X hs (by decide) rfl in_X3 5 (by decide) rfl fl_X3_18 (by subst ho; rfl) hd k
theorem fl_X3_21 : Cond.fieldLink RX3 21 RX3 (TX3 6).2.1 (TX3 6).2.2.1 ∈ TT := TT_at 221 (by decide +kernel) rfl
theorem gf_X3_21 {Γ : Ctx} {cc : ByteArray} {nL d pc : Nat} {L : List (Nat × Value)} {st : List Value} {I : MI} {J : MJ} {o n : Nat} {o' : Nat} (X : Cx Γ cc nL RX3 d) (hs : shp[o]? = some (3, n)) (ho : o + 4 = o') (hd : decode cc pc = .ok (.getfield 21, 3)) (k : Wp Γ nL (pc + 3) L (.ref (ad Γ o') :: st) I J) : Wp Γ nL pc L (.ref (ad Γ o) :: st) I J := wp_get X hs (by decide) rfl in_X3 6 (by decide) rfl fl_X3_21 (by subst ho; rfl) hd k
theorem fl_X3_24 : Cond.fieldLink RX3 24 RX3 (TX3 0).2.1 (TX3 0).2.2.1 ∈ TT := TT_at 194 (by decide +kernel) rfl
theorem gf_X3_24 {Γ : Ctx} {cc : ByteArray} {nL d pc : Nat} {L : List (Nat × Value)} {st : List Value} {I : MI} {J : MJ} {o n : Nat} (X : Cx Γ cc nL RX3 d) (hs : shp[o]? = some (3, n)) (hd : decode cc pc = .ok (.getfield 24, 3)) (k : Wp Γ nL (pc + 3) L (.int (I o 0) :: st) I J) : Wp Γ nL pc L (.ref (ad Γ o) :: st) I J := wp_get X hs (by decide) rfl in_X3 0 (by decide) rfl fl_X3_24 rfl hd k
theorem pf_X3_24 {Γ : Ctx} {cc : ByteArray} {nL d pc : Nat} {L : List (Nat × Value)} {st : List Value} {I : MI} {J : MJ} {o n : Nat} {x : Int32} (X : Cx Γ cc nL RX3 d) (hs : shp[o]? = some (3, n)) (hd : decode cc pc = .ok (.putfield 24, 3)) (k : ∀ I' : MI, I' = (sI I o (upd (I o) 0 x)) → Wp Γ nL (pc + 3) L st I' J) : Wp Γ nL pc L (.int x :: .ref (ad Γ o) :: st) I J :=
  wp_put (I' := (sI I o (upd (I o) 0 x))) (J' := J) X hs (by decide) rfl in_X3 tyX3 tyX3_ok nmX3 0 (by decide) rfl fl_X3_24 rfl rfl rfl (Nat.le_of_ble_eq_true rfl) (by rw [fs_3_0, ← cel_o hs (by decide), wd_setI]) hd (k _ rfl)
theorem fl_X3_28 : Cond.fieldLink RX3 28 RX3 (TX3 1).2.1 (TX3 1).2.2.1 ∈ TT := TT_at 198 (by decide +kernel) rfl
theorem gf_X3_28 {Γ : Ctx} {cc : ByteArray} {nL d pc : Nat} {L : List (Nat × Value)} {st : List Value} {I : MI} {J : MJ} {o n : Nat} (X : Cx Γ cc nL RX3 d) (hs : shp[o]? = some (3, n)) (hd : decode cc pc = .ok (.getfield 28, 3)) (k : Wp Γ nL (pc + 3) L (.int (I o 1) :: st) I J) : Wp Γ nL pc L (.ref (ad Γ o) :: st) I J := wp_get X hs (by decide) rfl in_X3 1 (by decide) rfl fl_X3_28 rfl hd k
theorem pf_X3_28 {Γ : Ctx} {cc : ByteArray} {nL d pc : Nat} {L : List (Nat × Value)} {st : List Value} {I : MI} {J : MJ} {o n : Nat} {x : Int32} (X : Cx Γ cc nL RX3 d) (hs : shp[o]? = some (3, n)) (hd : decode cc pc = .ok (.putfield 28, 3)) (k : ∀ I' : MI, I' = (sI I o (upd (I o) 1 x)) → Wp Γ nL (pc + 3) L st I' J) : Wp Γ nL pc L (.int x :: .ref (ad Γ o) :: st) I J :=
  wp_put (I' := (sI I o (upd (I o) 1 x))) (J' := J) X hs (by decide) rfl in_X3 tyX3 tyX3_ok nmX3 1 (by decide) rfl fl_X3_28 rfl rfl rfl (Nat.le_of_ble_eq_true rfl) (by rw [fs_3_1, ← cel_o hs (by decide), wd_setI]) hd (k _ rfl)
theorem fl_X3_31 : Cond.fieldLink RX3 31 RX3 (TX3 2).2.1 (TX3 2).2.2.1 ∈ TT := TT_at 205 (by decide +kernel) rfl
theorem gf_X3_31 {Γ : Ctx} {cc : ByteArray} {nL d pc : Nat} {L : List (Nat × Value)} {st : List Value} {I : MI} {J : MJ} {o n : Nat} (X : Cx Γ cc nL RX3 d) (hs : shp[o]? = some (3, n)) (hd : decode cc pc = .ok (.getfield 31, 3)) (k : Wp Γ nL (pc + 3) L (.int (I o 2) :: st) I J) : Wp Γ nL pc L (.ref (ad Γ o) :: st) I J := wp_get X hs (by decide) rfl in_X3 2 (by decide) rfl fl_X3_31 rfl hd k
theorem pf_X3_31 {Γ : Ctx} {cc : ByteArray} {nL d pc : Nat} {L : List (Nat × Value)} {st : List Value} {I : MI} {J : MJ} {o n : Nat} {x : Int32} (X : Cx Γ cc nL RX3 d) (hs : shp[o]? = some (3, n)) (hd : decode cc pc = .ok (.putfield 31, 3)) (k : ∀ I' : MI, I' = (sI I o (upd (I o) 2 x)) → Wp Γ nL (pc + 3) L st I' J) : Wp Γ nL pc L (.int x :: .ref (ad Γ o) :: st) I J :=
  wp_put (I' := (sI I o (upd (I o) 2 x))) (J' := J) X hs (by decide) rfl in_X3 tyX3 tyX3_ok nmX3 2 (by decide) rfl fl_X3_31 rfl rfl rfl (Nat.le_of_ble_eq_true rfl) (by rw [fs_3_2, ← cel_o hs (by decide), wd_setI]) hd (k _ rfl)
theorem fl_X4_9 : Cond.fieldLink RX4 9 RX4 (TX4 0).2.1 (TX4 0).2.2.1 ∈ TT := TT_at 406 (by decide +kernel) rfl
theorem gf_X4_9 {Γ : Ctx} {cc : ByteArray} {nL d pc : Nat} {L : List (Nat × Value)} {st : List Value} {I : MI} {J : MJ} {o n : Nat} (X : Cx Γ cc nL RX4 d) (hs : shp[o]? = some (4, n)) (hd : decode cc pc = .ok (.getfield 9, 3)) (k : Wp Γ nL (pc + 3) L (.int (I o 0) :: st) I J) : Wp Γ nL pc L (.ref (ad Γ o) :: st) I J := wp_get X hs (by decide) rfl in_X4 0 (by decide) rfl fl_X4_9 rfl hd k
theorem pf_X4_9 {Γ : Ctx} {cc : ByteArray} {nL d pc : Nat} {L : List (Nat × Value)} {st : List Value} {I : MI} {J : MJ} {o n : Nat} {x : Int32} (X : Cx Γ cc nL RX4 d) (hs : shp[o]? = some (4, n)) (hd : decode cc pc = .ok (.putfield 9, 3)) (k : ∀ I' : MI, I' = (sI I o (upd (I o) 0 x)) → Wp Γ nL (pc + 3) L st I' J) : Wp Γ nL pc L (.int x :: .ref (ad Γ o) :: st) I J :=
  wp_put (I' := (sI I o (upd (I o) 0 x))) (J' := J) X hs (by decide) rfl in_X4 tyX4 tyX4_ok nmX4 0 (by decide) rfl fl_X4_9 rfl rfl rfl (Nat.le_of_ble_eq_true rfl) (by rw [fs_4_0, ← cel_o hs (by decide), wd_setI]) hd (k _ rfl)
theorem fl_X4_18 : Cond.fieldLink RX4 18 RX4 (TX4 1).2.1 (TX4 1).2.2.1 ∈ TT := TT_at 408 (by decide +kernel) rfl
theorem gf_X4_18 {Γ : Ctx} {cc : ByteArray} {nL d pc : Nat} {L : List (Nat × Value)} {st : List Value} {I : MI} {J : MJ} {o n : Nat} {o' : Nat} (X : Cx Γ cc nL RX4 d) (hs : shp[o]? = some (4, n)) (ho : o + 1 = o') (hd : decode cc pc = .ok (.getfield 18, 3)) (k : Wp Γ nL (pc + 3) L (.ref (ad Γ o') :: st) I J) : Wp Γ nL pc L (.ref (ad Γ o) :: st) I J := wp_get X hs (by decide) rfl in_X4 1 (by decide) rfl fl_X4_18 (by subst ho; rfl) hd k
theorem fl_X4_22 : Cond.fieldLink RX4 22 RX4 (TX4 4).2.1 (TX4 4).2.2.1 ∈ TT := TT_at 414 (by decide +kernel) rfl
theorem gf_X4_22 {Γ : Ctx} {cc : ByteArray} {nL d pc : Nat} {L : List (Nat × Value)} {st : List Value} {I : MI} {J : MJ} {o n : Nat} {o' : Nat} (X : Cx Γ cc nL RX4 d) (hs : shp[o]? = some (4, n)) (ho : o + 6 = o') (hd : decode cc pc = .ok (.getfield 22, 3)) (k : Wp Γ nL (pc + 3) L (.ref (ad Γ o') :: st) I J) : Wp Γ nL pc L (.ref (ad Γ o) :: st) I J := wp_get X hs (by decide) rfl in_X4 4 (by decide) rfl fl_X4_22 (by subst ho; rfl) hd k
theorem fl_X4_30 : Cond.fieldLink RX4 30 RX3 (TX3 0).2.1 (TX3 0).2.2.1 ∈ TT := TT_at 195 (by decide +kernel) rfl
theorem gf_X4_30 {Γ : Ctx} {cc : ByteArray} {nL d pc : Nat} {L : List (Nat × Value)} {st : List Value} {I : MI} {J : MJ} {o n : Nat} (X : Cx Γ cc nL RX4 d) (hs : shp[o]? = some (3, n)) (hd : decode cc pc = .ok (.getfield 30, 3)) (k : Wp Γ nL (pc + 3) L (.int (I o 0) :: st) I J) : Wp Γ nL pc L (.ref (ad Γ o) :: st) I J := wp_get X hs (by decide) rfl in_X3 0 (by decide) rfl fl_X4_30 rfl hd k
theorem pf_X4_30 {Γ : Ctx} {cc : ByteArray} {nL d pc : Nat} {L : List (Nat × Value)} {st : List Value} {I : MI} {J : MJ} {o n : Nat} {x : Int32} (X : Cx Γ cc nL RX4 d) (hs : shp[o]? = some (3, n)) (hd : decode cc pc = .ok (.putfield 30, 3)) (k : ∀ I' : MI, I' = (sI I o (upd (I o) 0 x)) → Wp Γ nL (pc + 3) L st I' J) : Wp Γ nL pc L (.int x :: .ref (ad Γ o) :: st) I J :=
  wp_put (I' := (sI I o (upd (I o) 0 x))) (J' := J) X hs (by decide) rfl in_X3 tyX3 tyX3_ok nmX3 0 (by decide) rfl fl_X4_30 rfl rfl rfl (Nat.le_of_ble_eq_true rfl) (by rw [fs_3_0, ← cel_o hs (by decide), wd_setI]) hd (k _ rfl)
theorem fl_X4_33 : Cond.fieldLink RX4 33 RX4 (TX4 2).2.1 (TX4 2).2.2.1 ∈ TT := TT_at 410 (by decide +kernel) rfl
theorem gf_X4_33 {Γ : Ctx} {cc : ByteArray} {nL d pc : Nat} {L : List (Nat × Value)} {st : List Value} {I : MI} {J : MJ} {o n : Nat} (X : Cx Γ cc nL RX4 d) (hs : shp[o]? = some (4, n)) (hd : decode cc pc = .ok (.getfield 33, 3)) (k : Wp Γ nL (pc + 3) L (.int (I o 2) :: st) I J) : Wp Γ nL pc L (.ref (ad Γ o) :: st) I J := wp_get X hs (by decide) rfl in_X4 2 (by decide) rfl fl_X4_33 rfl hd k
theorem pf_X4_33 {Γ : Ctx} {cc : ByteArray} {nL d pc : Nat} {L : List (Nat × Value)} {st : List Value} {I : MI} {J : MJ} {o n : Nat} {x : Int32} (X : Cx Γ cc nL RX4 d) (hs : shp[o]? = some (4, n)) (hd : decode cc pc = .ok (.putfield 33, 3)) (k : ∀ I' : MI, I' = (sI I o (upd (I o) 2 x)) → Wp Γ nL (pc + 3) L st I' J) : Wp Γ nL pc L (.int x :: .ref (ad Γ o) :: st) I J :=
  wp_put (I' := (sI I o (upd (I o) 2 x))) (J' := J) X hs (by decide) rfl in_X4 tyX4 tyX4_ok nmX4 2 (by decide) rfl fl_X4_33 rfl rfl rfl (Nat.le_of_ble_eq_true rfl) (by rw [fs_4_2, ← cel_o hs (by decide), wd_setI]) hd (k _ rfl)
theorem fl_X4_36 : Cond.fieldLink RX4 36 RX4 (TX4 3).2.1 (TX4 3).2.2.1 ∈ TT := TT_at 412 (by decide +kernel) rfl
theorem gf_X4_36 {Γ : Ctx} {cc : ByteArray} {nL d pc : Nat} {L : List (Nat × Value)} {st : List Value} {I : MI} {J : MJ} {o n : Nat} (X : Cx Γ cc nL RX4 d) (hs : shp[o]? = some (4, n)) (hd : decode cc pc = .ok (.getfield 36, 3)) (k : Wp Γ nL (pc + 3) L (.int (I o 3) :: st) I J) : Wp Γ nL pc L (.ref (ad Γ o) :: st) I J := wp_get X hs (by decide) rfl in_X4 3 (by decide) rfl fl_X4_36 rfl hd k
theorem pf_X4_36 {Γ : Ctx} {cc : ByteArray} {nL d pc : Nat} {L : List (Nat × Value)} {st : List Value} {I : MI} {J : MJ} {o n : Nat} {x : Int32} (X : Cx Γ cc nL RX4 d) (hs : shp[o]? = some (4, n)) (hd : decode cc pc = .ok (.putfield 36, 3)) (k : ∀ I' : MI, I' = (sI I o (upd (I o) 3 x)) → Wp Γ nL (pc + 3) L st I' J) : Wp Γ nL pc L (.int x :: .ref (ad Γ o) :: st) I J :=
  wp_put (I' := (sI I o (upd (I o) 3 x))) (J' := J) X hs (by decide) rfl in_X4 tyX4 tyX4_ok nmX4 3 (by decide) rfl fl_X4_36 rfl rfl rfl (Nat.le_of_ble_eq_true rfl) (by rw [fs_4_3, ← cel_o hs (by decide), wd_setI]) hd (k _ rfl)
theorem fl_X5_12 : Cond.fieldLink RX5 12 RX5 (TX5 6).2.1 (TX5 6).2.2.1 ∈ TT := TT_at 330 (by decide +kernel) rfl
theorem gf_X5_12 {Γ : Ctx} {cc : ByteArray} {nL d pc : Nat} {L : List (Nat × Value)} {st : List Value} {I : MI} {J : MJ} {o n : Nat} {o' : Nat} (X : Cx Γ cc nL RX5 d) (hs : shp[o]? = some (5, n)) (ho : o + 1 = o') (hd : decode cc pc = .ok (.getfield 12, 3)) (k : Wp Γ nL (pc + 3) L (.ref (ad Γ o') :: st) I J) : Wp Γ nL pc L (.ref (ad Γ o) :: st) I J := wp_get X hs (by decide) rfl in_X5 6 (by decide) rfl fl_X5_12 (by subst ho; rfl) hd k
theorem fl_X5_18 : Cond.fieldLink RX5 18 RX5 (TX5 7).2.1 (TX5 7).2.2.1 ∈ TT := TT_at 332 (by decide +kernel) rfl
theorem gf_X5_18 {Γ : Ctx} {cc : ByteArray} {nL d pc : Nat} {L : List (Nat × Value)} {st : List Value} {I : MI} {J : MJ} {o n : Nat} {o' : Nat} (X : Cx Γ cc nL RX5 d) (hs : shp[o]? = some (5, n)) (ho : o + 6 = o') (hd : decode cc pc = .ok (.getfield 18, 3)) (k : Wp Γ nL (pc + 3) L (.ref (ad Γ o') :: st) I J) : Wp Γ nL pc L (.ref (ad Γ o) :: st) I J := wp_get X hs (by decide) rfl in_X5 7 (by decide) rfl fl_X5_18 (by subst ho; rfl) hd k
theorem fl_X5_21 : Cond.fieldLink RX5 21 RX5 (TX5 8).2.1 (TX5 8).2.2.1 ∈ TT := TT_at 334 (by decide +kernel) rfl
theorem gf_X5_21 {Γ : Ctx} {cc : ByteArray} {nL d pc : Nat} {L : List (Nat × Value)} {st : List Value} {I : MI} {J : MJ} {o n : Nat} {o' : Nat} (X : Cx Γ cc nL RX5 d) (hs : shp[o]? = some (5, n)) (ho : o + 11 = o') (hd : decode cc pc = .ok (.getfield 21, 3)) (k : Wp Γ nL (pc + 3) L (.ref (ad Γ o') :: st) I J) : Wp Γ nL pc L (.ref (ad Γ o) :: st) I J := wp_get X hs (by decide) rfl in_X5 8 (by decide) rfl fl_X5_21 (by subst ho; rfl) hd k
theorem fl_X5_25 : Cond.fieldLink RX5 25 RX5 (TX5 9).2.1 (TX5 9).2.2.1 ∈ TT := TT_at 336 (by decide +kernel) rfl
theorem gf_X5_25 {Γ : Ctx} {cc : ByteArray} {nL d pc : Nat} {L : List (Nat × Value)} {st : List Value} {I : MI} {J : MJ} {o n : Nat} {o' : Nat} (X : Cx Γ cc nL RX5 d) (hs : shp[o]? = some (5, n)) (ho : o + 12 = o') (hd : decode cc pc = .ok (.getfield 25, 3)) (k : Wp Γ nL (pc + 3) L (.ref (ad Γ o') :: st) I J) : Wp Γ nL pc L (.ref (ad Γ o) :: st) I J := wp_get X hs (by decide) rfl in_X5 9 (by decide) rfl fl_X5_25 (by subst ho; rfl) hd k
theorem fl_X5_28 : Cond.fieldLink RX5 28 RX5 (TX5 10).2.1 (TX5 10).2.2.1 ∈ TT := TT_at 338 (by decide +kernel) rfl
theorem gf_X5_28 {Γ : Ctx} {cc : ByteArray} {nL d pc : Nat} {L : List (Nat × Value)} {st : List Value} {I : MI} {J : MJ} {o n : Nat} {o' : Nat} (X : Cx Γ cc nL RX5 d) (hs : shp[o]? = some (5, n)) (ho : o + 13 = o') (hd : decode cc pc = .ok (.getfield 28, 3)) (k : Wp Γ nL (pc + 3) L (.ref (ad Γ o') :: st) I J) : Wp Γ nL pc L (.ref (ad Γ o) :: st) I J := wp_get X hs (by decide) rfl in_X5 10 (by decide) rfl fl_X5_28 (by subst ho; rfl) hd k
theorem fl_X5_32 : Cond.fieldLink RX5 32 RX5 (TX5 11).2.1 (TX5 11).2.2.1 ∈ TT := TT_at 339 (by decide +kernel) rfl
theorem gf_X5_32 {Γ : Ctx} {cc : ByteArray} {nL d pc : Nat} {L : List (Nat × Value)} {st : List Value} {I : MI} {J : MJ} {o n : Nat} {o' : Nat} (X : Cx Γ cc nL RX5 d) (hs : shp[o]? = some (5, n)) (ho : o + 14 = o') (hd : decode cc pc = .ok (.getfield 32, 3)) (k : Wp Γ nL (pc + 3) L (.ref (ad Γ o') :: st) I J) : Wp Γ nL pc L (.ref (ad Γ o) :: st) I J := wp_get X hs (by decide) rfl in_X5 11 (by decide) rfl fl_X5_32 (by subst ho; rfl) hd k
theorem fl_X5_35 : Cond.fieldLink RX5 35 RX5 (TX5 0).2.1 (TX5 0).2.2.1 ∈ TT := TT_at 318 (by decide +kernel) rfl
theorem gf_X5_35 {Γ : Ctx} {cc : ByteArray} {nL d pc : Nat} {L : List (Nat × Value)} {st : List Value} {I : MI} {J : MJ} {o n : Nat} (X : Cx Γ cc nL RX5 d) (hs : shp[o]? = some (5, n)) (hd : decode cc pc = .ok (.getfield 35, 3)) (k : Wp Γ nL (pc + 3) L (.int (I o 0) :: st) I J) : Wp Γ nL pc L (.ref (ad Γ o) :: st) I J := wp_get X hs (by decide) rfl in_X5 0 (by decide) rfl fl_X5_35 rfl hd k
theorem pf_X5_35 {Γ : Ctx} {cc : ByteArray} {nL d pc : Nat} {L : List (Nat × Value)} {st : List Value} {I : MI} {J : MJ} {o n : Nat} {x : Int32} (X : Cx Γ cc nL RX5 d) (hs : shp[o]? = some (5, n)) (hz : x = 0 ∨ x = 1) (hd : decode cc pc = .ok (.putfield 35, 3)) (k : ∀ I' : MI, I' = (sI I o (upd (I o) 0 x)) → Wp Γ nL (pc + 3) L st I' J) : Wp Γ nL pc L (.int x :: .ref (ad Γ o) :: st) I J :=
  wp_put (I' := (sI I o (upd (I o) 0 x))) (J' := J) X hs (by decide) rfl in_X5 tyX5 tyX5_ok nmX5 0 (by decide) rfl fl_X5_35 rfl (by rcases hz with rfl | rfl <;> decide) (by rcases hz with rfl | rfl <;> decide) (Nat.le_of_ble_eq_true rfl) (by rw [fs_5_0, ← cel_o hs (by decide), wd_setI]) hd (k _ rfl)
theorem fl_X5_43 : Cond.fieldLink RX5 43 RX5 (TX5 1).2.1 (TX5 1).2.2.1 ∈ TT := TT_at 320 (by decide +kernel) rfl
theorem gf_X5_43 {Γ : Ctx} {cc : ByteArray} {nL d pc : Nat} {L : List (Nat × Value)} {st : List Value} {I : MI} {J : MJ} {o n : Nat} (X : Cx Γ cc nL RX5 d) (hs : shp[o]? = some (5, n)) (hd : decode cc pc = .ok (.getfield 43, 3)) (k : Wp Γ nL (pc + 3) L (.int (I o 1) :: st) I J) : Wp Γ nL pc L (.ref (ad Γ o) :: st) I J := wp_get X hs (by decide) rfl in_X5 1 (by decide) rfl fl_X5_43 rfl hd k
theorem pf_X5_43 {Γ : Ctx} {cc : ByteArray} {nL d pc : Nat} {L : List (Nat × Value)} {st : List Value} {I : MI} {J : MJ} {o n : Nat} {x : Int32} (X : Cx Γ cc nL RX5 d) (hs : shp[o]? = some (5, n)) (hd : decode cc pc = .ok (.putfield 43, 3)) (k : ∀ I' : MI, I' = (sI I o (upd (I o) 1 x)) → Wp Γ nL (pc + 3) L st I' J) : Wp Γ nL pc L (.int x :: .ref (ad Γ o) :: st) I J :=
  wp_put (I' := (sI I o (upd (I o) 1 x))) (J' := J) X hs (by decide) rfl in_X5 tyX5 tyX5_ok nmX5 1 (by decide) rfl fl_X5_43 rfl rfl rfl (Nat.le_of_ble_eq_true rfl) (by rw [fs_5_1, ← cel_o hs (by decide), wd_setI]) hd (k _ rfl)
theorem fl_X5_47 : Cond.fieldLink RX5 47 RX5 (TX5 2).2.1 (TX5 2).2.2.1 ∈ TT := TT_at 322 (by decide +kernel) rfl
theorem gf_X5_47 {Γ : Ctx} {cc : ByteArray} {nL d pc : Nat} {L : List (Nat × Value)} {st : List Value} {I : MI} {J : MJ} {o n : Nat} (X : Cx Γ cc nL RX5 d) (hs : shp[o]? = some (5, n)) (hd : decode cc pc = .ok (.getfield 47, 3)) (k : Wp Γ nL (pc + 3) L (.int (I o 2) :: st) I J) : Wp Γ nL pc L (.ref (ad Γ o) :: st) I J := wp_get X hs (by decide) rfl in_X5 2 (by decide) rfl fl_X5_47 rfl hd k
theorem pf_X5_47 {Γ : Ctx} {cc : ByteArray} {nL d pc : Nat} {L : List (Nat × Value)} {st : List Value} {I : MI} {J : MJ} {o n : Nat} {x : Int32} (X : Cx Γ cc nL RX5 d) (hs : shp[o]? = some (5, n)) (hd : decode cc pc = .ok (.putfield 47, 3)) (k : ∀ I' : MI, I' = (sI I o (upd (I o) 2 x)) → Wp Γ nL (pc + 3) L st I' J) : Wp Γ nL pc L (.int x :: .ref (ad Γ o) :: st) I J :=
  wp_put (I' := (sI I o (upd (I o) 2 x))) (J' := J) X hs (by decide) rfl in_X5 tyX5 tyX5_ok nmX5 2 (by decide) rfl fl_X5_47 rfl rfl rfl (Nat.le_of_ble_eq_true rfl) (by rw [fs_5_2, ← cel_o hs (by decide), wd_setI]) hd (k _ rfl)
theorem fl_X5_50 : Cond.fieldLink RX5 50 RX5 (TX5 3).2.1 (TX5 3).2.2.1 ∈ TT := TT_at 324 (by decide +kernel) rfl
theorem gf_X5_50 {Γ : Ctx} {cc : ByteArray} {nL d pc : Nat} {L : List (Nat × Value)} {st : List Value} {I : MI} {J : MJ} {o n : Nat} (X : Cx Γ cc nL RX5 d) (hs : shp[o]? = some (5, n)) (hd : decode cc pc = .ok (.getfield 50, 3)) (k : Wp Γ nL (pc + 3) L (.int (I o 3) :: st) I J) : Wp Γ nL pc L (.ref (ad Γ o) :: st) I J := wp_get X hs (by decide) rfl in_X5 3 (by decide) rfl fl_X5_50 rfl hd k
theorem pf_X5_50 {Γ : Ctx} {cc : ByteArray} {nL d pc : Nat} {L : List (Nat × Value)} {st : List Value} {I : MI} {J : MJ} {o n : Nat} {x : Int32} (X : Cx Γ cc nL RX5 d) (hs : shp[o]? = some (5, n)) (hd : decode cc pc = .ok (.putfield 50, 3)) (k : ∀ I' : MI, I' = (sI I o (upd (I o) 3 x)) → Wp Γ nL (pc + 3) L st I' J) : Wp Γ nL pc L (.int x :: .ref (ad Γ o) :: st) I J :=
  wp_put (I' := (sI I o (upd (I o) 3 x))) (J' := J) X hs (by decide) rfl in_X5 tyX5 tyX5_ok nmX5 3 (by decide) rfl fl_X5_50 rfl rfl rfl (Nat.le_of_ble_eq_true rfl) (by rw [fs_5_3, ← cel_o hs (by decide), wd_setI]) hd (k _ rfl)
theorem fl_X5_53 : Cond.fieldLink RX5 53 RX5 (TX5 4).2.1 (TX5 4).2.2.1 ∈ TT := TT_at 326 (by decide +kernel) rfl
theorem gf_X5_53 {Γ : Ctx} {cc : ByteArray} {nL d pc : Nat} {L : List (Nat × Value)} {st : List Value} {I : MI} {J : MJ} {o n : Nat} (X : Cx Γ cc nL RX5 d) (hs : shp[o]? = some (5, n)) (hd : decode cc pc = .ok (.getfield 53, 3)) (k : Wp Γ nL (pc + 3) L (.int (I o 4) :: st) I J) : Wp Γ nL pc L (.ref (ad Γ o) :: st) I J := wp_get X hs (by decide) rfl in_X5 4 (by decide) rfl fl_X5_53 rfl hd k
theorem pf_X5_53 {Γ : Ctx} {cc : ByteArray} {nL d pc : Nat} {L : List (Nat × Value)} {st : List Value} {I : MI} {J : MJ} {o n : Nat} {x : Int32} (X : Cx Γ cc nL RX5 d) (hs : shp[o]? = some (5, n)) (hd : decode cc pc = .ok (.putfield 53, 3)) (k : ∀ I' : MI, I' = (sI I o (upd (I o) 4 x)) → Wp Γ nL (pc + 3) L st I' J) : Wp Γ nL pc L (.int x :: .ref (ad Γ o) :: st) I J :=
  wp_put (I' := (sI I o (upd (I o) 4 x))) (J' := J) X hs (by decide) rfl in_X5 tyX5 tyX5_ok nmX5 4 (by decide) rfl fl_X5_53 rfl rfl rfl (Nat.le_of_ble_eq_true rfl) (by rw [fs_5_4, ← cel_o hs (by decide), wd_setI]) hd (k _ rfl)
theorem fl_X5_56 : Cond.fieldLink RX5 56 RX5 (TX5 5).2.1 (TX5 5).2.2.1 ∈ TT := TT_at 328 (by decide +kernel) rfl
theorem gf_X5_56 {Γ : Ctx} {cc : ByteArray} {nL d pc : Nat} {L : List (Nat × Value)} {st : List Value} {I : MI} {J : MJ} {o n : Nat} (X : Cx Γ cc nL RX5 d) (hs : shp[o]? = some (5, n)) (hd : decode cc pc = .ok (.getfield 56, 3)) (k : Wp Γ nL (pc + 3) L (.long (J o 5) :: st) I J) : Wp Γ nL pc L (.ref (ad Γ o) :: st) I J := wp_get X hs (by decide) rfl in_X5 5 (by decide) rfl fl_X5_56 rfl hd k
theorem pf_X5_56 {Γ : Ctx} {cc : ByteArray} {nL d pc : Nat} {L : List (Nat × Value)} {st : List Value} {I : MI} {J : MJ} {o n : Nat} {x : Int64} (X : Cx Γ cc nL RX5 d) (hs : shp[o]? = some (5, n)) (hd : decode cc pc = .ok (.putfield 56, 3)) (k : ∀ J' : MJ, J' = (sJ J o (vp_updL (J o) 5 x)) → Wp Γ nL (pc + 3) L st I J') : Wp Γ nL pc L (.long x :: .ref (ad Γ o) :: st) I J :=
  wp_put (I' := I) (J' := (sJ J o (vp_updL (J o) 5 x))) X hs (by decide) rfl in_X5 tyX5 tyX5_ok nmX5 5 (by decide) rfl fl_X5_56 rfl rfl rfl (Nat.le_of_ble_eq_true rfl) (by rw [fs_5_5, ← cel_o hs (by decide), wd_setJ]) hd (k _ rfl)
theorem fl_X5_70 : Cond.fieldLink RX5 70 RX3 (TX3 1).2.1 (TX3 1).2.2.1 ∈ TT := TT_at 200 (by decide +kernel) rfl
theorem gf_X5_70 {Γ : Ctx} {cc : ByteArray} {nL d pc : Nat} {L : List (Nat × Value)} {st : List Value} {I : MI} {J : MJ} {o n : Nat} (X : Cx Γ cc nL RX5 d) (hs : shp[o]? = some (3, n)) (hd : decode cc pc = .ok (.getfield 70, 3)) (k : Wp Γ nL (pc + 3) L (.int (I o 1) :: st) I J) : Wp Γ nL pc L (.ref (ad Γ o) :: st) I J := wp_get X hs (by decide) rfl in_X3 1 (by decide) rfl fl_X5_70 rfl hd k
theorem pf_X5_70 {Γ : Ctx} {cc : ByteArray} {nL d pc : Nat} {L : List (Nat × Value)} {st : List Value} {I : MI} {J : MJ} {o n : Nat} {x : Int32} (X : Cx Γ cc nL RX5 d) (hs : shp[o]? = some (3, n)) (hd : decode cc pc = .ok (.putfield 70, 3)) (k : ∀ I' : MI, I' = (sI I o (upd (I o) 1 x)) → Wp Γ nL (pc + 3) L st I' J) : Wp Γ nL pc L (.int x :: .ref (ad Γ o) :: st) I J :=
  wp_put (I' := (sI I o (upd (I o) 1 x))) (J' := J) X hs (by decide) rfl in_X3 tyX3 tyX3_ok nmX3 1 (by decide) rfl fl_X5_70 rfl rfl rfl (Nat.le_of_ble_eq_true rfl) (by rw [fs_3_1, ← cel_o hs (by decide), wd_setI]) hd (k _ rfl)
theorem fl_X5_84 : Cond.fieldLink RX5 84 RX3 (TX3 2).2.1 (TX3 2).2.2.1 ∈ TT := TT_at 210 (by decide +kernel) rfl
theorem gf_X5_84 {Γ : Ctx} {cc : ByteArray} {nL d pc : Nat} {L : List (Nat × Value)} {st : List Value} {I : MI} {J : MJ} {o n : Nat} (X : Cx Γ cc nL RX5 d) (hs : shp[o]? = some (3, n)) (hd : decode cc pc = .ok (.getfield 84, 3)) (k : Wp Γ nL (pc + 3) L (.int (I o 2) :: st) I J) : Wp Γ nL pc L (.ref (ad Γ o) :: st) I J := wp_get X hs (by decide) rfl in_X3 2 (by decide) rfl fl_X5_84 rfl hd k
theorem pf_X5_84 {Γ : Ctx} {cc : ByteArray} {nL d pc : Nat} {L : List (Nat × Value)} {st : List Value} {I : MI} {J : MJ} {o n : Nat} {x : Int32} (X : Cx Γ cc nL RX5 d) (hs : shp[o]? = some (3, n)) (hd : decode cc pc = .ok (.putfield 84, 3)) (k : ∀ I' : MI, I' = (sI I o (upd (I o) 2 x)) → Wp Γ nL (pc + 3) L st I' J) : Wp Γ nL pc L (.int x :: .ref (ad Γ o) :: st) I J :=
  wp_put (I' := (sI I o (upd (I o) 2 x))) (J' := J) X hs (by decide) rfl in_X3 tyX3 tyX3_ok nmX3 2 (by decide) rfl fl_X5_84 rfl rfl rfl (Nat.le_of_ble_eq_true rfl) (by rw [fs_3_2, ← cel_o hs (by decide), wd_setI]) hd (k _ rfl)
theorem fl_X5_104 : Cond.fieldLink RX5 104 RX3 (TX3 6).2.1 (TX3 6).2.2.1 ∈ TT := TT_at 224 (by decide +kernel) rfl
theorem gf_X5_104 {Γ : Ctx} {cc : ByteArray} {nL d pc : Nat} {L : List (Nat × Value)} {st : List Value} {I : MI} {J : MJ} {o n : Nat} {o' : Nat} (X : Cx Γ cc nL RX5 d) (hs : shp[o]? = some (3, n)) (ho : o + 4 = o') (hd : decode cc pc = .ok (.getfield 104, 3)) (k : Wp Γ nL (pc + 3) L (.ref (ad Γ o') :: st) I J) : Wp Γ nL pc L (.ref (ad Γ o) :: st) I J := wp_get X hs (by decide) rfl in_X3 6 (by decide) rfl fl_X5_104 (by subst ho; rfl) hd k
theorem fl_X5_107 : Cond.fieldLink RX5 107 RX3 (TX3 4).2.1 (TX3 4).2.2.1 ∈ TT := TT_at 216 (by decide +kernel) rfl
theorem gf_X5_107 {Γ : Ctx} {cc : ByteArray} {nL d pc : Nat} {L : List (Nat × Value)} {st : List Value} {I : MI} {J : MJ} {o n : Nat} {o' : Nat} (X : Cx Γ cc nL RX5 d) (hs : shp[o]? = some (3, n)) (ho : o + 2 = o') (hd : decode cc pc = .ok (.getfield 107, 3)) (k : Wp Γ nL (pc + 3) L (.ref (ad Γ o') :: st) I J) : Wp Γ nL pc L (.ref (ad Γ o) :: st) I J := wp_get X hs (by decide) rfl in_X3 4 (by decide) rfl fl_X5_107 (by subst ho; rfl) hd k
theorem fl_X6_12 : Cond.fieldLink RX6 12 RX6 (TX6 0).2.1 (TX6 0).2.2.1 ∈ TT := TT_at 281 (by decide +kernel) rfl
theorem gf_X6_12 {Γ : Ctx} {cc : ByteArray} {nL d pc : Nat} {L : List (Nat × Value)} {st : List Value} {I : MI} {J : MJ} {o n : Nat} {o' : Nat} (X : Cx Γ cc nL RX6 d) (hs : shp[o]? = some (6, n)) (ho : o + 1 = o') (hd : decode cc pc = .ok (.getfield 12, 3)) (k : Wp Γ nL (pc + 3) L (.ref (ad Γ o') :: st) I J) : Wp Γ nL pc L (.ref (ad Γ o) :: st) I J := wp_get X hs (by decide) rfl in_X6 0 (by decide) rfl fl_X6_12 (by subst ho; rfl) hd k
theorem fl_X6_18 : Cond.fieldLink RX6 18 RX6 (TX6 4).2.1 (TX6 4).2.2.1 ∈ TT := TT_at 286 (by decide +kernel) rfl
theorem gf_X6_18 {Γ : Ctx} {cc : ByteArray} {nL d pc : Nat} {L : List (Nat × Value)} {st : List Value} {I : MI} {J : MJ} {o n : Nat} {o' : Nat} (X : Cx Γ cc nL RX6 d) (hs : shp[o]? = some (6, n)) (ho : o + 6 = o') (hd : decode cc pc = .ok (.getfield 18, 3)) (k : Wp Γ nL (pc + 3) L (.ref (ad Γ o') :: st) I J) : Wp Γ nL pc L (.ref (ad Γ o) :: st) I J := wp_get X hs (by decide) rfl in_X6 4 (by decide) rfl fl_X6_18 (by subst ho; rfl) hd k
theorem fl_X6_22 : Cond.fieldLink RX6 22 RX6 (TX6 5).2.1 (TX6 5).2.2.1 ∈ TT := TT_at 287 (by decide +kernel) rfl
theorem gf_X6_22 {Γ : Ctx} {cc : ByteArray} {nL d pc : Nat} {L : List (Nat × Value)} {st : List Value} {I : MI} {J : MJ} {o n : Nat} {o' : Nat} (X : Cx Γ cc nL RX6 d) (hs : shp[o]? = some (6, n)) (ho : o + 7 = o') (hd : decode cc pc = .ok (.getfield 22, 3)) (k : Wp Γ nL (pc + 3) L (.ref (ad Γ o') :: st) I J) : Wp Γ nL pc L (.ref (ad Γ o) :: st) I J := wp_get X hs (by decide) rfl in_X6 5 (by decide) rfl fl_X6_22 (by subst ho; rfl) hd k
theorem fl_X6_25 : Cond.fieldLink RX6 25 RX6 (TX6 6).2.1 (TX6 6).2.2.1 ∈ TT := TT_at 288 (by decide +kernel) rfl
theorem gf_X6_25 {Γ : Ctx} {cc : ByteArray} {nL d pc : Nat} {L : List (Nat × Value)} {st : List Value} {I : MI} {J : MJ} {o n : Nat} {o' : Nat} (X : Cx Γ cc nL RX6 d) (hs : shp[o]? = some (6, n)) (ho : o + 8 = o') (hd : decode cc pc = .ok (.getfield 25, 3)) (k : Wp Γ nL (pc + 3) L (.ref (ad Γ o') :: st) I J) : Wp Γ nL pc L (.ref (ad Γ o) :: st) I J := wp_get X hs (by decide) rfl in_X6 6 (by decide) rfl fl_X6_25 (by subst ho; rfl) hd k
theorem fl_X6_28 : Cond.fieldLink RX6 28 RX6 (TX6 7).2.1 (TX6 7).2.2.1 ∈ TT := TT_at 289 (by decide +kernel) rfl
theorem gf_X6_28 {Γ : Ctx} {cc : ByteArray} {nL d pc : Nat} {L : List (Nat × Value)} {st : List Value} {I : MI} {J : MJ} {o n : Nat} {o' : Nat} (X : Cx Γ cc nL RX6 d) (hs : shp[o]? = some (6, n)) (ho : o + 9 = o') (hd : decode cc pc = .ok (.getfield 28, 3)) (k : Wp Γ nL (pc + 3) L (.ref (ad Γ o') :: st) I J) : Wp Γ nL pc L (.ref (ad Γ o) :: st) I J := wp_get X hs (by decide) rfl in_X6 7 (by decide) rfl fl_X6_28 (by subst ho; rfl) hd k
theorem fl_X6_31 : Cond.fieldLink RX6 31 RX6 (TX6 8).2.1 (TX6 8).2.2.1 ∈ TT := TT_at 290 (by decide +kernel) rfl
theorem gf_X6_31 {Γ : Ctx} {cc : ByteArray} {nL d pc : Nat} {L : List (Nat × Value)} {st : List Value} {I : MI} {J : MJ} {o n : Nat} {o' : Nat} (X : Cx Γ cc nL RX6 d) (hs : shp[o]? = some (6, n)) (ho : o + 10 = o') (hd : decode cc pc = .ok (.getfield 31, 3)) (k : Wp Γ nL (pc + 3) L (.ref (ad Γ o') :: st) I J) : Wp Γ nL pc L (.ref (ad Γ o) :: st) I J := wp_get X hs (by decide) rfl in_X6 8 (by decide) rfl fl_X6_31 (by subst ho; rfl) hd k
theorem fl_X6_45 : Cond.fieldLink RX6 45 RX6 (TX6 2).2.1 (TX6 2).2.2.1 ∈ TT := TT_at 284 (by decide +kernel) rfl
theorem gf_X6_45 {Γ : Ctx} {cc : ByteArray} {nL d pc : Nat} {L : List (Nat × Value)} {st : List Value} {I : MI} {J : MJ} {o n : Nat} (X : Cx Γ cc nL RX6 d) (hs : shp[o]? = some (6, n)) (hd : decode cc pc = .ok (.getfield 45, 3)) (k : Wp Γ nL (pc + 3) L (.int (I o 2) :: st) I J) : Wp Γ nL pc L (.ref (ad Γ o) :: st) I J := wp_get X hs (by decide) rfl in_X6 2 (by decide) rfl fl_X6_45 rfl hd k
theorem fs_6_2 {ad : Nat → Nat} {f : Nat → Int32} {h : Nat → Int64} {o : Nat} {x : Int32} : (flds ad 6 f h o).set 2 (.int x) = flds ad 6 (upd f 2 x) h o := by simp [flds, upd, vp_updL]
theorem pf_X6_45 {Γ : Ctx} {cc : ByteArray} {nL d pc : Nat} {L : List (Nat × Value)} {st : List Value} {I : MI} {J : MJ} {o n : Nat} {x : Int32} (X : Cx Γ cc nL RX6 d) (hs : shp[o]? = some (6, n)) (hd : decode cc pc = .ok (.putfield 45, 3)) (k : ∀ I' : MI, I' = (sI I o (upd (I o) 2 x)) → Wp Γ nL (pc + 3) L st I' J) : Wp Γ nL pc L (.int x :: .ref (ad Γ o) :: st) I J :=
  wp_put (I' := (sI I o (upd (I o) 2 x))) (J' := J) X hs (by decide) rfl in_X6 tyX6 tyX6_ok nmX6 2 (by decide) rfl fl_X6_45 rfl rfl rfl (Nat.le_of_ble_eq_true rfl) (by rw [fs_6_2, ← cel_o hs (by decide), wd_setI]) hd (k _ rfl)
theorem fl_X6_55 : Cond.fieldLink RX6 55 RX3 (TX3 2).2.1 (TX3 2).2.2.1 ∈ TT := TT_at 207 (by decide +kernel) rfl
theorem gf_X6_55 {Γ : Ctx} {cc : ByteArray} {nL d pc : Nat} {L : List (Nat × Value)} {st : List Value} {I : MI} {J : MJ} {o n : Nat} (X : Cx Γ cc nL RX6 d) (hs : shp[o]? = some (3, n)) (hd : decode cc pc = .ok (.getfield 55, 3)) (k : Wp Γ nL (pc + 3) L (.int (I o 2) :: st) I J) : Wp Γ nL pc L (.ref (ad Γ o) :: st) I J := wp_get X hs (by decide) rfl in_X3 2 (by decide) rfl fl_X6_55 rfl hd k
theorem pf_X6_55 {Γ : Ctx} {cc : ByteArray} {nL d pc : Nat} {L : List (Nat × Value)} {st : List Value} {I : MI} {J : MJ} {o n : Nat} {x : Int32} (X : Cx Γ cc nL RX6 d) (hs : shp[o]? = some (3, n)) (hd : decode cc pc = .ok (.putfield 55, 3)) (k : ∀ I' : MI, I' = (sI I o (upd (I o) 2 x)) → Wp Γ nL (pc + 3) L st I' J) : Wp Γ nL pc L (.int x :: .ref (ad Γ o) :: st) I J :=
  wp_put (I' := (sI I o (upd (I o) 2 x))) (J' := J) X hs (by decide) rfl in_X3 tyX3 tyX3_ok nmX3 2 (by decide) rfl fl_X6_55 rfl rfl rfl (Nat.le_of_ble_eq_true rfl) (by rw [fs_3_2, ← cel_o hs (by decide), wd_setI]) hd (k _ rfl)
theorem fl_X6_60 : Cond.fieldLink RX6 60 RX6 (TX6 1).2.1 (TX6 1).2.2.1 ∈ TT := TT_at 283 (by decide +kernel) rfl
theorem gf_X6_60 {Γ : Ctx} {cc : ByteArray} {nL d pc : Nat} {L : List (Nat × Value)} {st : List Value} {I : MI} {J : MJ} {o n : Nat} (X : Cx Γ cc nL RX6 d) (hs : shp[o]? = some (6, n)) (hd : decode cc pc = .ok (.getfield 60, 3)) (k : Wp Γ nL (pc + 3) L (.int (I o 1) :: st) I J) : Wp Γ nL pc L (.ref (ad Γ o) :: st) I J := wp_get X hs (by decide) rfl in_X6 1 (by decide) rfl fl_X6_60 rfl hd k
theorem fs_6_1 {ad : Nat → Nat} {f : Nat → Int32} {h : Nat → Int64} {o : Nat} {x : Int32} : (flds ad 6 f h o).set 1 (.int x) = flds ad 6 (upd f 1 x) h o := by simp [flds, upd, vp_updL]
theorem pf_X6_60 {Γ : Ctx} {cc : ByteArray} {nL d pc : Nat} {L : List (Nat × Value)} {st : List Value} {I : MI} {J : MJ} {o n : Nat} {x : Int32} (X : Cx Γ cc nL RX6 d) (hs : shp[o]? = some (6, n)) (hd : decode cc pc = .ok (.putfield 60, 3)) (k : ∀ I' : MI, I' = (sI I o (upd (I o) 1 x)) → Wp Γ nL (pc + 3) L st I' J) : Wp Γ nL pc L (.int x :: .ref (ad Γ o) :: st) I J :=
  wp_put (I' := (sI I o (upd (I o) 1 x))) (J' := J) X hs (by decide) rfl in_X6 tyX6 tyX6_ok nmX6 1 (by decide) rfl fl_X6_60 rfl rfl rfl (Nat.le_of_ble_eq_true rfl) (by rw [fs_6_1, ← cel_o hs (by decide), wd_setI]) hd (k _ rfl)
theorem fl_X6_63 : Cond.fieldLink RX6 63 RX3 (TX3 1).2.1 (TX3 1).2.2.1 ∈ TT := TT_at 201 (by decide +kernel) rfl
theorem gf_X6_63 {Γ : Ctx} {cc : ByteArray} {nL d pc : Nat} {L : List (Nat × Value)} {st : List Value} {I : MI} {J : MJ} {o n : Nat} (X : Cx Γ cc nL RX6 d) (hs : shp[o]? = some (3, n)) (hd : decode cc pc = .ok (.getfield 63, 3)) (k : Wp Γ nL (pc + 3) L (.int (I o 1) :: st) I J) : Wp Γ nL pc L (.ref (ad Γ o) :: st) I J := wp_get X hs (by decide) rfl in_X3 1 (by decide) rfl fl_X6_63 rfl hd k
theorem pf_X6_63 {Γ : Ctx} {cc : ByteArray} {nL d pc : Nat} {L : List (Nat × Value)} {st : List Value} {I : MI} {J : MJ} {o n : Nat} {x : Int32} (X : Cx Γ cc nL RX6 d) (hs : shp[o]? = some (3, n)) (hd : decode cc pc = .ok (.putfield 63, 3)) (k : ∀ I' : MI, I' = (sI I o (upd (I o) 1 x)) → Wp Γ nL (pc + 3) L st I' J) : Wp Γ nL pc L (.int x :: .ref (ad Γ o) :: st) I J :=
  wp_put (I' := (sI I o (upd (I o) 1 x))) (J' := J) X hs (by decide) rfl in_X3 tyX3 tyX3_ok nmX3 1 (by decide) rfl fl_X6_63 rfl rfl rfl (Nat.le_of_ble_eq_true rfl) (by rw [fs_3_1, ← cel_o hs (by decide), wd_setI]) hd (k _ rfl)
theorem fl_X6_81 : Cond.fieldLink RX6 81 RX6 (TX6 3).2.1 (TX6 3).2.2.1 ∈ TT := TT_at 285 (by decide +kernel) rfl
theorem gf_X6_81 {Γ : Ctx} {cc : ByteArray} {nL d pc : Nat} {L : List (Nat × Value)} {st : List Value} {I : MI} {J : MJ} {o n : Nat} (X : Cx Γ cc nL RX6 d) (hs : shp[o]? = some (6, n)) (hd : decode cc pc = .ok (.getfield 81, 3)) (k : Wp Γ nL (pc + 3) L (.int (I o 3) :: st) I J) : Wp Γ nL pc L (.ref (ad Γ o) :: st) I J := wp_get X hs (by decide) rfl in_X6 3 (by decide) rfl fl_X6_81 rfl hd k
theorem fs_6_3 {ad : Nat → Nat} {f : Nat → Int32} {h : Nat → Int64} {o : Nat} {x : Int32} : (flds ad 6 f h o).set 3 (.int x) = flds ad 6 (upd f 3 x) h o := by simp [flds, upd, vp_updL]
theorem pf_X6_81 {Γ : Ctx} {cc : ByteArray} {nL d pc : Nat} {L : List (Nat × Value)} {st : List Value} {I : MI} {J : MJ} {o n : Nat} {x : Int32} (X : Cx Γ cc nL RX6 d) (hs : shp[o]? = some (6, n)) (hd : decode cc pc = .ok (.putfield 81, 3)) (k : ∀ I' : MI, I' = (sI I o (upd (I o) 3 x)) → Wp Γ nL (pc + 3) L st I' J) : Wp Γ nL pc L (.int x :: .ref (ad Γ o) :: st) I J :=
  wp_put (I' := (sI I o (upd (I o) 3 x))) (J' := J) X hs (by decide) rfl in_X6 tyX6 tyX6_ok nmX6 3 (by decide) rfl fl_X6_81 rfl rfl rfl (Nat.le_of_ble_eq_true rfl) (by rw [fs_6_3, ← cel_o hs (by decide), wd_setI]) hd (k _ rfl)
theorem fl_X7_9 : Cond.fieldLink RX7 9 RX7 (TX7 0).2.1 (TX7 0).2.2.1 ∈ TT := TT_at 266 (by decide +kernel) rfl
theorem gf_X7_9 {Γ : Ctx} {cc : ByteArray} {nL d pc : Nat} {L : List (Nat × Value)} {st : List Value} {I : MI} {J : MJ} {o n : Nat} {o' : Nat} (X : Cx Γ cc nL RX7 d) (hs : shp[o]? = some (7, n)) (ho : o + 1 = o') (hd : decode cc pc = .ok (.getfield 9, 3)) (k : Wp Γ nL (pc + 3) L (.ref (ad Γ o') :: st) I J) : Wp Γ nL pc L (.ref (ad Γ o) :: st) I J := wp_get X hs (by decide) rfl in_X7 0 (by decide) rfl fl_X7_9 (by subst ho; rfl) hd k
theorem fl_X7_15 : Cond.fieldLink RX7 15 RX7 (TX7 1).2.1 (TX7 1).2.2.1 ∈ TT := TT_at 267 (by decide +kernel) rfl
theorem gf_X7_15 {Γ : Ctx} {cc : ByteArray} {nL d pc : Nat} {L : List (Nat × Value)} {st : List Value} {I : MI} {J : MJ} {o n : Nat} {o' : Nat} (X : Cx Γ cc nL RX7 d) (hs : shp[o]? = some (7, n)) (ho : o + 2 = o') (hd : decode cc pc = .ok (.getfield 15, 3)) (k : Wp Γ nL (pc + 3) L (.ref (ad Γ o') :: st) I J) : Wp Γ nL pc L (.ref (ad Γ o) :: st) I J := wp_get X hs (by decide) rfl in_X7 1 (by decide) rfl fl_X7_15 (by subst ho; rfl) hd k
theorem fl_X7_59 : Cond.fieldLink RX7 59 RX3 (TX3 1).2.1 (TX3 1).2.2.1 ∈ TT := TT_at 202 (by decide +kernel) rfl
theorem gf_X7_59 {Γ : Ctx} {cc : ByteArray} {nL d pc : Nat} {L : List (Nat × Value)} {st : List Value} {I : MI} {J : MJ} {o n : Nat} (X : Cx Γ cc nL RX7 d) (hs : shp[o]? = some (3, n)) (hd : decode cc pc = .ok (.getfield 59, 3)) (k : Wp Γ nL (pc + 3) L (.int (I o 1) :: st) I J) : Wp Γ nL pc L (.ref (ad Γ o) :: st) I J := wp_get X hs (by decide) rfl in_X3 1 (by decide) rfl fl_X7_59 rfl hd k
theorem pf_X7_59 {Γ : Ctx} {cc : ByteArray} {nL d pc : Nat} {L : List (Nat × Value)} {st : List Value} {I : MI} {J : MJ} {o n : Nat} {x : Int32} (X : Cx Γ cc nL RX7 d) (hs : shp[o]? = some (3, n)) (hd : decode cc pc = .ok (.putfield 59, 3)) (k : ∀ I' : MI, I' = (sI I o (upd (I o) 1 x)) → Wp Γ nL (pc + 3) L st I' J) : Wp Γ nL pc L (.int x :: .ref (ad Γ o) :: st) I J :=
  wp_put (I' := (sI I o (upd (I o) 1 x))) (J' := J) X hs (by decide) rfl in_X3 tyX3 tyX3_ok nmX3 1 (by decide) rfl fl_X7_59 rfl rfl rfl (Nat.le_of_ble_eq_true rfl) (by rw [fs_3_1, ← cel_o hs (by decide), wd_setI]) hd (k _ rfl)
theorem fl_X7_67 : Cond.fieldLink RX7 67 RX3 (TX3 2).2.1 (TX3 2).2.2.1 ∈ TT := TT_at 211 (by decide +kernel) rfl
theorem gf_X7_67 {Γ : Ctx} {cc : ByteArray} {nL d pc : Nat} {L : List (Nat × Value)} {st : List Value} {I : MI} {J : MJ} {o n : Nat} (X : Cx Γ cc nL RX7 d) (hs : shp[o]? = some (3, n)) (hd : decode cc pc = .ok (.getfield 67, 3)) (k : Wp Γ nL (pc + 3) L (.int (I o 2) :: st) I J) : Wp Γ nL pc L (.ref (ad Γ o) :: st) I J := wp_get X hs (by decide) rfl in_X3 2 (by decide) rfl fl_X7_67 rfl hd k
theorem pf_X7_67 {Γ : Ctx} {cc : ByteArray} {nL d pc : Nat} {L : List (Nat × Value)} {st : List Value} {I : MI} {J : MJ} {o n : Nat} {x : Int32} (X : Cx Γ cc nL RX7 d) (hs : shp[o]? = some (3, n)) (hd : decode cc pc = .ok (.putfield 67, 3)) (k : ∀ I' : MI, I' = (sI I o (upd (I o) 2 x)) → Wp Γ nL (pc + 3) L st I' J) : Wp Γ nL pc L (.int x :: .ref (ad Γ o) :: st) I J :=
  wp_put (I' := (sI I o (upd (I o) 2 x))) (J' := J) X hs (by decide) rfl in_X3 tyX3 tyX3_ok nmX3 2 (by decide) rfl fl_X7_67 rfl rfl rfl (Nat.le_of_ble_eq_true rfl) (by rw [fs_3_2, ← cel_o hs (by decide), wd_setI]) hd (k _ rfl)
theorem fl_X11_7 : Cond.fieldLink RX11 7 RX11 (TX11 0).2.1 (TX11 0).2.2.1 ∈ TT := TT_at 1160 (by decide +kernel) rfl
theorem gf_X11_7 {Γ : Ctx} {cc : ByteArray} {nL d pc : Nat} {L : List (Nat × Value)} {st : List Value} {I : MI} {J : MJ} {o n : Nat} {o' : Nat} (X : Cx Γ cc nL RX11 d) (hs : shp[o]? = some (9, n)) (ho : o + 1 = o') (hd : decode cc pc = .ok (.getfield 7, 3)) (k : Wp Γ nL (pc + 3) L (.ref (ad Γ o') :: st) I J) : Wp Γ nL pc L (.ref (ad Γ o) :: st) I J := wp_get X hs (by decide) rfl in_X11 0 (by decide) rfl fl_X11_7 (by subst ho; rfl) hd k
theorem fl_X11_13 : Cond.fieldLink RX11 13 RX11 (TX11 1).2.1 (TX11 1).2.2.1 ∈ TT := TT_at 1161 (by decide +kernel) rfl
theorem gf_X11_13 {Γ : Ctx} {cc : ByteArray} {nL d pc : Nat} {L : List (Nat × Value)} {st : List Value} {I : MI} {J : MJ} {o n : Nat} {o' : Nat} (X : Cx Γ cc nL RX11 d) (hs : shp[o]? = some (9, n)) (ho : o + 2 = o') (hd : decode cc pc = .ok (.getfield 13, 3)) (k : Wp Γ nL (pc + 3) L (.ref (ad Γ o') :: st) I J) : Wp Γ nL pc L (.ref (ad Γ o) :: st) I J := wp_get X hs (by decide) rfl in_X11 1 (by decide) rfl fl_X11_13 (by subst ho; rfl) hd k
theorem fl_X11_16 : Cond.fieldLink RX11 16 RX11 (TX11 2).2.1 (TX11 2).2.2.1 ∈ TT := TT_at 1162 (by decide +kernel) rfl
theorem gf_X11_16 {Γ : Ctx} {cc : ByteArray} {nL d pc : Nat} {L : List (Nat × Value)} {st : List Value} {I : MI} {J : MJ} {o n : Nat} {o' : Nat} (X : Cx Γ cc nL RX11 d) (hs : shp[o]? = some (9, n)) (ho : o + 3 = o') (hd : decode cc pc = .ok (.getfield 16, 3)) (k : Wp Γ nL (pc + 3) L (.ref (ad Γ o') :: st) I J) : Wp Γ nL pc L (.ref (ad Γ o) :: st) I J := wp_get X hs (by decide) rfl in_X11 2 (by decide) rfl fl_X11_16 (by subst ho; rfl) hd k
theorem fl_X11_20 : Cond.fieldLink RX11 20 RX11 (TX11 3).2.1 (TX11 3).2.2.1 ∈ TT := TT_at 1163 (by decide +kernel) rfl
theorem gf_X11_20 {Γ : Ctx} {cc : ByteArray} {nL d pc : Nat} {L : List (Nat × Value)} {st : List Value} {I : MI} {J : MJ} {o n : Nat} {o' : Nat} (X : Cx Γ cc nL RX11 d) (hs : shp[o]? = some (9, n)) (ho : o + 4 = o') (hd : decode cc pc = .ok (.getfield 20, 3)) (k : Wp Γ nL (pc + 3) L (.ref (ad Γ o') :: st) I J) : Wp Γ nL pc L (.ref (ad Γ o) :: st) I J := wp_get X hs (by decide) rfl in_X11 3 (by decide) rfl fl_X11_20 (by subst ho; rfl) hd k
theorem fl_X11_23 : Cond.fieldLink RX11 23 RX11 (TX11 4).2.1 (TX11 4).2.2.1 ∈ TT := TT_at 1164 (by decide +kernel) rfl
theorem gf_X11_23 {Γ : Ctx} {cc : ByteArray} {nL d pc : Nat} {L : List (Nat × Value)} {st : List Value} {I : MI} {J : MJ} {o n : Nat} {o' : Nat} (X : Cx Γ cc nL RX11 d) (hs : shp[o]? = some (9, n)) (ho : o + 5 = o') (hd : decode cc pc = .ok (.getfield 23, 3)) (k : Wp Γ nL (pc + 3) L (.ref (ad Γ o') :: st) I J) : Wp Γ nL pc L (.ref (ad Γ o) :: st) I J := wp_get X hs (by decide) rfl in_X11 4 (by decide) rfl fl_X11_23 (by subst ho; rfl) hd k
theorem fl_X11_26 : Cond.fieldLink RX11 26 RX11 (TX11 5).2.1 (TX11 5).2.2.1 ∈ TT := TT_at 1165 (by decide +kernel) rfl
theorem gf_X11_26 {Γ : Ctx} {cc : ByteArray} {nL d pc : Nat} {L : List (Nat × Value)} {st : List Value} {I : MI} {J : MJ} {o n : Nat} {o' : Nat} (X : Cx Γ cc nL RX11 d) (hs : shp[o]? = some (9, n)) (ho : o + 6 = o') (hd : decode cc pc = .ok (.getfield 26, 3)) (k : Wp Γ nL (pc + 3) L (.ref (ad Γ o') :: st) I J) : Wp Γ nL pc L (.ref (ad Γ o) :: st) I J := wp_get X hs (by decide) rfl in_X11 5 (by decide) rfl fl_X11_26 (by subst ho; rfl) hd k
theorem fl_X11_30 : Cond.fieldLink RX11 30 RX11 (TX11 6).2.1 (TX11 6).2.2.1 ∈ TT := TT_at 1166 (by decide +kernel) rfl
theorem gf_X11_30 {Γ : Ctx} {cc : ByteArray} {nL d pc : Nat} {L : List (Nat × Value)} {st : List Value} {I : MI} {J : MJ} {o n : Nat} {o' : Nat} (X : Cx Γ cc nL RX11 d) (hs : shp[o]? = some (9, n)) (ho : o + 7 = o') (hd : decode cc pc = .ok (.getfield 30, 3)) (k : Wp Γ nL (pc + 3) L (.ref (ad Γ o') :: st) I J) : Wp Γ nL pc L (.ref (ad Γ o) :: st) I J := wp_get X hs (by decide) rfl in_X11 6 (by decide) rfl fl_X11_30 (by subst ho; rfl) hd k
theorem fl_X11_33 : Cond.fieldLink RX11 33 RX11 (TX11 7).2.1 (TX11 7).2.2.1 ∈ TT := TT_at 1167 (by decide +kernel) rfl
theorem gf_X11_33 {Γ : Ctx} {cc : ByteArray} {nL d pc : Nat} {L : List (Nat × Value)} {st : List Value} {I : MI} {J : MJ} {o n : Nat} {o' : Nat} (X : Cx Γ cc nL RX11 d) (hs : shp[o]? = some (9, n)) (ho : o + 8 = o') (hd : decode cc pc = .ok (.getfield 33, 3)) (k : Wp Γ nL (pc + 3) L (.ref (ad Γ o') :: st) I J) : Wp Γ nL pc L (.ref (ad Γ o) :: st) I J := wp_get X hs (by decide) rfl in_X11 7 (by decide) rfl fl_X11_33 (by subst ho; rfl) hd k
theorem fl_X11_36 : Cond.fieldLink RX11 36 RX11 (TX11 8).2.1 (TX11 8).2.2.1 ∈ TT := TT_at 1168 (by decide +kernel) rfl
theorem gf_X11_36 {Γ : Ctx} {cc : ByteArray} {nL d pc : Nat} {L : List (Nat × Value)} {st : List Value} {I : MI} {J : MJ} {o n : Nat} {o' : Nat} (X : Cx Γ cc nL RX11 d) (hs : shp[o]? = some (9, n)) (ho : o + 9 = o') (hd : decode cc pc = .ok (.getfield 36, 3)) (k : Wp Γ nL (pc + 3) L (.ref (ad Γ o') :: st) I J) : Wp Γ nL pc L (.ref (ad Γ o) :: st) I J := wp_get X hs (by decide) rfl in_X11 8 (by decide) rfl fl_X11_36 (by subst ho; rfl) hd k
theorem fl_X11_39 : Cond.fieldLink RX11 39 RX11 (TX11 9).2.1 (TX11 9).2.2.1 ∈ TT := TT_at 1169 (by decide +kernel) rfl
theorem gf_X11_39 {Γ : Ctx} {cc : ByteArray} {nL d pc : Nat} {L : List (Nat × Value)} {st : List Value} {I : MI} {J : MJ} {o n : Nat} {o' : Nat} (X : Cx Γ cc nL RX11 d) (hs : shp[o]? = some (9, n)) (ho : o + 10 = o') (hd : decode cc pc = .ok (.getfield 39, 3)) (k : Wp Γ nL (pc + 3) L (.ref (ad Γ o') :: st) I J) : Wp Γ nL pc L (.ref (ad Γ o) :: st) I J := wp_get X hs (by decide) rfl in_X11 9 (by decide) rfl fl_X11_39 (by subst ho; rfl) hd k
theorem fl_X11_42 : Cond.fieldLink RX11 42 RX11 (TX11 10).2.1 (TX11 10).2.2.1 ∈ TT := TT_at 1170 (by decide +kernel) rfl
theorem gf_X11_42 {Γ : Ctx} {cc : ByteArray} {nL d pc : Nat} {L : List (Nat × Value)} {st : List Value} {I : MI} {J : MJ} {o n : Nat} {o' : Nat} (X : Cx Γ cc nL RX11 d) (hs : shp[o]? = some (9, n)) (ho : o + 11 = o') (hd : decode cc pc = .ok (.getfield 42, 3)) (k : Wp Γ nL (pc + 3) L (.ref (ad Γ o') :: st) I J) : Wp Γ nL pc L (.ref (ad Γ o) :: st) I J := wp_get X hs (by decide) rfl in_X11 10 (by decide) rfl fl_X11_42 (by subst ho; rfl) hd k
theorem fl_X11_45 : Cond.fieldLink RX11 45 RX11 (TX11 11).2.1 (TX11 11).2.2.1 ∈ TT := TT_at 1171 (by decide +kernel) rfl
theorem gf_X11_45 {Γ : Ctx} {cc : ByteArray} {nL d pc : Nat} {L : List (Nat × Value)} {st : List Value} {I : MI} {J : MJ} {o n : Nat} {o' : Nat} (X : Cx Γ cc nL RX11 d) (hs : shp[o]? = some (9, n)) (ho : o + 12 = o') (hd : decode cc pc = .ok (.getfield 45, 3)) (k : Wp Γ nL (pc + 3) L (.ref (ad Γ o') :: st) I J) : Wp Γ nL pc L (.ref (ad Γ o) :: st) I J := wp_get X hs (by decide) rfl in_X11 11 (by decide) rfl fl_X11_45 (by subst ho; rfl) hd k
theorem fl_X11_48 : Cond.fieldLink RX11 48 RX11 (TX11 12).2.1 (TX11 12).2.2.1 ∈ TT := TT_at 1172 (by decide +kernel) rfl
theorem gf_X11_48 {Γ : Ctx} {cc : ByteArray} {nL d pc : Nat} {L : List (Nat × Value)} {st : List Value} {I : MI} {J : MJ} {o n : Nat} {o' : Nat} (X : Cx Γ cc nL RX11 d) (hs : shp[o]? = some (9, n)) (ho : o + 13 = o') (hd : decode cc pc = .ok (.getfield 48, 3)) (k : Wp Γ nL (pc + 3) L (.ref (ad Γ o') :: st) I J) : Wp Γ nL pc L (.ref (ad Γ o) :: st) I J := wp_get X hs (by decide) rfl in_X11 12 (by decide) rfl fl_X11_48 (by subst ho; rfl) hd k
theorem fl_X11_51 : Cond.fieldLink RX11 51 RX11 (TX11 17).2.1 (TX11 17).2.2.1 ∈ TT := TT_at 1177 (by decide +kernel) rfl
theorem gf_X11_51 {Γ : Ctx} {cc : ByteArray} {nL d pc : Nat} {L : List (Nat × Value)} {st : List Value} {I : MI} {J : MJ} {o n : Nat} {o' : Nat} (X : Cx Γ cc nL RX11 d) (hs : shp[o]? = some (9, n)) (ho : o + 14 = o') (hd : decode cc pc = .ok (.getfield 51, 3)) (k : Wp Γ nL (pc + 3) L (.ref (ad Γ o') :: st) I J) : Wp Γ nL pc L (.ref (ad Γ o) :: st) I J := wp_get X hs (by decide) rfl in_X11 17 (by decide) rfl fl_X11_51 (by subst ho; rfl) hd k
theorem fl_X11_54 : Cond.fieldLink RX11 54 RX11 (TX11 18).2.1 (TX11 18).2.2.1 ∈ TT := TT_at 1178 (by decide +kernel) rfl
theorem gf_X11_54 {Γ : Ctx} {cc : ByteArray} {nL d pc : Nat} {L : List (Nat × Value)} {st : List Value} {I : MI} {J : MJ} {o n : Nat} {o' : Nat} (X : Cx Γ cc nL RX11 d) (hs : shp[o]? = some (9, n)) (ho : o + 15 = o') (hd : decode cc pc = .ok (.getfield 54, 3)) (k : Wp Γ nL (pc + 3) L (.ref (ad Γ o') :: st) I J) : Wp Γ nL pc L (.ref (ad Γ o) :: st) I J := wp_get X hs (by decide) rfl in_X11 18 (by decide) rfl fl_X11_54 (by subst ho; rfl) hd k
theorem fl_X11_57 : Cond.fieldLink RX11 57 RX11 (TX11 19).2.1 (TX11 19).2.2.1 ∈ TT := TT_at 1179 (by decide +kernel) rfl
theorem gf_X11_57 {Γ : Ctx} {cc : ByteArray} {nL d pc : Nat} {L : List (Nat × Value)} {st : List Value} {I : MI} {J : MJ} {o n : Nat} {o' : Nat} (X : Cx Γ cc nL RX11 d) (hs : shp[o]? = some (9, n)) (ho : o + 16 = o') (hd : decode cc pc = .ok (.getfield 57, 3)) (k : Wp Γ nL (pc + 3) L (.ref (ad Γ o') :: st) I J) : Wp Γ nL pc L (.ref (ad Γ o) :: st) I J := wp_get X hs (by decide) rfl in_X11 19 (by decide) rfl fl_X11_57 (by subst ho; rfl) hd k
theorem fl_X11_60 : Cond.fieldLink RX11 60 RX11 (TX11 20).2.1 (TX11 20).2.2.1 ∈ TT := TT_at 1180 (by decide +kernel) rfl
theorem gf_X11_60 {Γ : Ctx} {cc : ByteArray} {nL d pc : Nat} {L : List (Nat × Value)} {st : List Value} {I : MI} {J : MJ} {o n : Nat} {o' : Nat} (X : Cx Γ cc nL RX11 d) (hs : shp[o]? = some (9, n)) (ho : o + 17 = o') (hd : decode cc pc = .ok (.getfield 60, 3)) (k : Wp Γ nL (pc + 3) L (.ref (ad Γ o') :: st) I J) : Wp Γ nL pc L (.ref (ad Γ o) :: st) I J := wp_get X hs (by decide) rfl in_X11 20 (by decide) rfl fl_X11_60 (by subst ho; rfl) hd k
theorem fl_X11_63 : Cond.fieldLink RX11 63 RX11 (TX11 21).2.1 (TX11 21).2.2.1 ∈ TT := TT_at 1181 (by decide +kernel) rfl
theorem gf_X11_63 {Γ : Ctx} {cc : ByteArray} {nL d pc : Nat} {L : List (Nat × Value)} {st : List Value} {I : MI} {J : MJ} {o n : Nat} {o' : Nat} (X : Cx Γ cc nL RX11 d) (hs : shp[o]? = some (9, n)) (ho : o + 18 = o') (hd : decode cc pc = .ok (.getfield 63, 3)) (k : Wp Γ nL (pc + 3) L (.ref (ad Γ o') :: st) I J) : Wp Γ nL pc L (.ref (ad Γ o) :: st) I J := wp_get X hs (by decide) rfl in_X11 21 (by decide) rfl fl_X11_63 (by subst ho; rfl) hd k
theorem fl_X11_66 : Cond.fieldLink RX11 66 RX11 (TX11 22).2.1 (TX11 22).2.2.1 ∈ TT := TT_at 1182 (by decide +kernel) rfl
theorem gf_X11_66 {Γ : Ctx} {cc : ByteArray} {nL d pc : Nat} {L : List (Nat × Value)} {st : List Value} {I : MI} {J : MJ} {o n : Nat} {o' : Nat} (X : Cx Γ cc nL RX11 d) (hs : shp[o]? = some (9, n)) (ho : o + 19 = o') (hd : decode cc pc = .ok (.getfield 66, 3)) (k : Wp Γ nL (pc + 3) L (.ref (ad Γ o') :: st) I J) : Wp Γ nL pc L (.ref (ad Γ o) :: st) I J := wp_get X hs (by decide) rfl in_X11 22 (by decide) rfl fl_X11_66 (by subst ho; rfl) hd k
theorem fl_X11_69 : Cond.fieldLink RX11 69 RX11 (TX11 23).2.1 (TX11 23).2.2.1 ∈ TT := TT_at 1183 (by decide +kernel) rfl
theorem gf_X11_69 {Γ : Ctx} {cc : ByteArray} {nL d pc : Nat} {L : List (Nat × Value)} {st : List Value} {I : MI} {J : MJ} {o n : Nat} {o' : Nat} (X : Cx Γ cc nL RX11 d) (hs : shp[o]? = some (9, n)) (ho : o + 20 = o') (hd : decode cc pc = .ok (.getfield 69, 3)) (k : Wp Γ nL (pc + 3) L (.ref (ad Γ o') :: st) I J) : Wp Γ nL pc L (.ref (ad Γ o) :: st) I J := wp_get X hs (by decide) rfl in_X11 23 (by decide) rfl fl_X11_69 (by subst ho; rfl) hd k
theorem fl_X11_72 : Cond.fieldLink RX11 72 RX11 (TX11 24).2.1 (TX11 24).2.2.1 ∈ TT := TT_at 1184 (by decide +kernel) rfl
theorem gf_X11_72 {Γ : Ctx} {cc : ByteArray} {nL d pc : Nat} {L : List (Nat × Value)} {st : List Value} {I : MI} {J : MJ} {o n : Nat} {o' : Nat} (X : Cx Γ cc nL RX11 d) (hs : shp[o]? = some (9, n)) (ho : o + 21 = o') (hd : decode cc pc = .ok (.getfield 72, 3)) (k : Wp Γ nL (pc + 3) L (.ref (ad Γ o') :: st) I J) : Wp Γ nL pc L (.ref (ad Γ o) :: st) I J := wp_get X hs (by decide) rfl in_X11 24 (by decide) rfl fl_X11_72 (by subst ho; rfl) hd k
theorem fl_X11_75 : Cond.fieldLink RX11 75 RX11 (TX11 25).2.1 (TX11 25).2.2.1 ∈ TT := TT_at 1185 (by decide +kernel) rfl
theorem gf_X11_75 {Γ : Ctx} {cc : ByteArray} {nL d pc : Nat} {L : List (Nat × Value)} {st : List Value} {I : MI} {J : MJ} {o n : Nat} {o' : Nat} (X : Cx Γ cc nL RX11 d) (hs : shp[o]? = some (9, n)) (ho : o + 22 = o') (hd : decode cc pc = .ok (.getfield 75, 3)) (k : Wp Γ nL (pc + 3) L (.ref (ad Γ o') :: st) I J) : Wp Γ nL pc L (.ref (ad Γ o) :: st) I J := wp_get X hs (by decide) rfl in_X11 25 (by decide) rfl fl_X11_75 (by subst ho; rfl) hd k
theorem fl_X11_78 : Cond.fieldLink RX11 78 RX11 (TX11 27).2.1 (TX11 27).2.2.1 ∈ TT := TT_at 1187 (by decide +kernel) rfl
theorem gf_X11_78 {Γ : Ctx} {cc : ByteArray} {nL d pc : Nat} {L : List (Nat × Value)} {st : List Value} {I : MI} {J : MJ} {o n : Nat} {o' : Nat} (X : Cx Γ cc nL RX11 d) (hs : shp[o]? = some (9, n)) (ho : o + 23 = o') (hd : decode cc pc = .ok (.getfield 78, 3)) (k : Wp Γ nL (pc + 3) L (.ref (ad Γ o') :: st) I J) : Wp Γ nL pc L (.ref (ad Γ o) :: st) I J := wp_get X hs (by decide) rfl in_X11 27 (by decide) rfl fl_X11_78 (by subst ho; rfl) hd k
theorem fl_X11_81 : Cond.fieldLink RX11 81 RX11 (TX11 28).2.1 (TX11 28).2.2.1 ∈ TT := TT_at 1188 (by decide +kernel) rfl
theorem gf_X11_81 {Γ : Ctx} {cc : ByteArray} {nL d pc : Nat} {L : List (Nat × Value)} {st : List Value} {I : MI} {J : MJ} {o n : Nat} {o' : Nat} (X : Cx Γ cc nL RX11 d) (hs : shp[o]? = some (9, n)) (ho : o + 24 = o') (hd : decode cc pc = .ok (.getfield 81, 3)) (k : Wp Γ nL (pc + 3) L (.ref (ad Γ o') :: st) I J) : Wp Γ nL pc L (.ref (ad Γ o) :: st) I J := wp_get X hs (by decide) rfl in_X11 28 (by decide) rfl fl_X11_81 (by subst ho; rfl) hd k
theorem fl_X11_84 : Cond.fieldLink RX11 84 RX11 (TX11 29).2.1 (TX11 29).2.2.1 ∈ TT := TT_at 1189 (by decide +kernel) rfl
theorem gf_X11_84 {Γ : Ctx} {cc : ByteArray} {nL d pc : Nat} {L : List (Nat × Value)} {st : List Value} {I : MI} {J : MJ} {o n : Nat} {o' : Nat} (X : Cx Γ cc nL RX11 d) (hs : shp[o]? = some (9, n)) (ho : o + 25 = o') (hd : decode cc pc = .ok (.getfield 84, 3)) (k : Wp Γ nL (pc + 3) L (.ref (ad Γ o') :: st) I J) : Wp Γ nL pc L (.ref (ad Γ o) :: st) I J := wp_get X hs (by decide) rfl in_X11 29 (by decide) rfl fl_X11_84 (by subst ho; rfl) hd k
theorem fl_X11_87 : Cond.fieldLink RX11 87 RX11 (TX11 30).2.1 (TX11 30).2.2.1 ∈ TT := TT_at 1190 (by decide +kernel) rfl
theorem gf_X11_87 {Γ : Ctx} {cc : ByteArray} {nL d pc : Nat} {L : List (Nat × Value)} {st : List Value} {I : MI} {J : MJ} {o n : Nat} {o' : Nat} (X : Cx Γ cc nL RX11 d) (hs : shp[o]? = some (9, n)) (ho : o + 26 = o') (hd : decode cc pc = .ok (.getfield 87, 3)) (k : Wp Γ nL (pc + 3) L (.ref (ad Γ o') :: st) I J) : Wp Γ nL pc L (.ref (ad Γ o) :: st) I J := wp_get X hs (by decide) rfl in_X11 30 (by decide) rfl fl_X11_87 (by subst ho; rfl) hd k
theorem fl_X11_90 : Cond.fieldLink RX11 90 RX11 (TX11 31).2.1 (TX11 31).2.2.1 ∈ TT := TT_at 1191 (by decide +kernel) rfl
theorem gf_X11_90 {Γ : Ctx} {cc : ByteArray} {nL d pc : Nat} {L : List (Nat × Value)} {st : List Value} {I : MI} {J : MJ} {o n : Nat} {o' : Nat} (X : Cx Γ cc nL RX11 d) (hs : shp[o]? = some (9, n)) (ho : o + 27 = o') (hd : decode cc pc = .ok (.getfield 90, 3)) (k : Wp Γ nL (pc + 3) L (.ref (ad Γ o') :: st) I J) : Wp Γ nL pc L (.ref (ad Γ o) :: st) I J := wp_get X hs (by decide) rfl in_X11 31 (by decide) rfl fl_X11_90 (by subst ho; rfl) hd k
theorem fl_X11_93 : Cond.fieldLink RX11 93 RX11 (TX11 33).2.1 (TX11 33).2.2.1 ∈ TT := TT_at 1193 (by decide +kernel) rfl
theorem gf_X11_93 {Γ : Ctx} {cc : ByteArray} {nL d pc : Nat} {L : List (Nat × Value)} {st : List Value} {I : MI} {J : MJ} {o n : Nat} {o' : Nat} (X : Cx Γ cc nL RX11 d) (hs : shp[o]? = some (9, n)) (ho : o + 28 = o') (hd : decode cc pc = .ok (.getfield 93, 3)) (k : Wp Γ nL (pc + 3) L (.ref (ad Γ o') :: st) I J) : Wp Γ nL pc L (.ref (ad Γ o) :: st) I J := wp_get X hs (by decide) rfl in_X11 33 (by decide) rfl fl_X11_93 (by subst ho; rfl) hd k
theorem fl_X11_96 : Cond.fieldLink RX11 96 RX11 (TX11 34).2.1 (TX11 34).2.2.1 ∈ TT := TT_at 1194 (by decide +kernel) rfl
theorem gf_X11_96 {Γ : Ctx} {cc : ByteArray} {nL d pc : Nat} {L : List (Nat × Value)} {st : List Value} {I : MI} {J : MJ} {o n : Nat} {o' : Nat} (X : Cx Γ cc nL RX11 d) (hs : shp[o]? = some (9, n)) (ho : o + 29 = o') (hd : decode cc pc = .ok (.getfield 96, 3)) (k : Wp Γ nL (pc + 3) L (.ref (ad Γ o') :: st) I J) : Wp Γ nL pc L (.ref (ad Γ o) :: st) I J := wp_get X hs (by decide) rfl in_X11 34 (by decide) rfl fl_X11_96 (by subst ho; rfl) hd k
theorem fl_X11_99 : Cond.fieldLink RX11 99 RX11 (TX11 35).2.1 (TX11 35).2.2.1 ∈ TT := TT_at 1195 (by decide +kernel) rfl
theorem gf_X11_99 {Γ : Ctx} {cc : ByteArray} {nL d pc : Nat} {L : List (Nat × Value)} {st : List Value} {I : MI} {J : MJ} {o n : Nat} {o' : Nat} (X : Cx Γ cc nL RX11 d) (hs : shp[o]? = some (9, n)) (ho : o + 30 = o') (hd : decode cc pc = .ok (.getfield 99, 3)) (k : Wp Γ nL (pc + 3) L (.ref (ad Γ o') :: st) I J) : Wp Γ nL pc L (.ref (ad Γ o) :: st) I J := wp_get X hs (by decide) rfl in_X11 35 (by decide) rfl fl_X11_99 (by subst ho; rfl) hd k
theorem fl_X11_102 : Cond.fieldLink RX11 102 RX11 (TX11 36).2.1 (TX11 36).2.2.1 ∈ TT := TT_at 1196 (by decide +kernel) rfl
theorem gf_X11_102 {Γ : Ctx} {cc : ByteArray} {nL d pc : Nat} {L : List (Nat × Value)} {st : List Value} {I : MI} {J : MJ} {o n : Nat} {o' : Nat} (X : Cx Γ cc nL RX11 d) (hs : shp[o]? = some (9, n)) (ho : o + 31 = o') (hd : decode cc pc = .ok (.getfield 102, 3)) (k : Wp Γ nL (pc + 3) L (.ref (ad Γ o') :: st) I J) : Wp Γ nL pc L (.ref (ad Γ o) :: st) I J := wp_get X hs (by decide) rfl in_X11 36 (by decide) rfl fl_X11_102 (by subst ho; rfl) hd k
theorem fl_X11_105 : Cond.fieldLink RX11 105 RX11 (TX11 37).2.1 (TX11 37).2.2.1 ∈ TT := TT_at 1197 (by decide +kernel) rfl
theorem gf_X11_105 {Γ : Ctx} {cc : ByteArray} {nL d pc : Nat} {L : List (Nat × Value)} {st : List Value} {I : MI} {J : MJ} {o n : Nat} {o' : Nat} (X : Cx Γ cc nL RX11 d) (hs : shp[o]? = some (9, n)) (ho : o + 32 = o') (hd : decode cc pc = .ok (.getfield 105, 3)) (k : Wp Γ nL (pc + 3) L (.ref (ad Γ o') :: st) I J) : Wp Γ nL pc L (.ref (ad Γ o) :: st) I J := wp_get X hs (by decide) rfl in_X11 37 (by decide) rfl fl_X11_105 (by subst ho; rfl) hd k
theorem fl_X11_108 : Cond.fieldLink RX11 108 RX11 (TX11 38).2.1 (TX11 38).2.2.1 ∈ TT := TT_at 1198 (by decide +kernel) rfl
theorem gf_X11_108 {Γ : Ctx} {cc : ByteArray} {nL d pc : Nat} {L : List (Nat × Value)} {st : List Value} {I : MI} {J : MJ} {o n : Nat} {o' : Nat} (X : Cx Γ cc nL RX11 d) (hs : shp[o]? = some (9, n)) (ho : o + 33 = o') (hd : decode cc pc = .ok (.getfield 108, 3)) (k : Wp Γ nL (pc + 3) L (.ref (ad Γ o') :: st) I J) : Wp Γ nL pc L (.ref (ad Γ o) :: st) I J := wp_get X hs (by decide) rfl in_X11 38 (by decide) rfl fl_X11_108 (by subst ho; rfl) hd k
theorem fl_X11_111 : Cond.fieldLink RX11 111 RX11 (TX11 41).2.1 (TX11 41).2.2.1 ∈ TT := TT_at 1201 (by decide +kernel) rfl
theorem gf_X11_111 {Γ : Ctx} {cc : ByteArray} {nL d pc : Nat} {L : List (Nat × Value)} {st : List Value} {I : MI} {J : MJ} {o n : Nat} {o' : Nat} (X : Cx Γ cc nL RX11 d) (hs : shp[o]? = some (9, n)) (ho : o + 34 = o') (hd : decode cc pc = .ok (.getfield 111, 3)) (k : Wp Γ nL (pc + 3) L (.ref (ad Γ o') :: st) I J) : Wp Γ nL pc L (.ref (ad Γ o) :: st) I J := wp_get X hs (by decide) rfl in_X11 41 (by decide) rfl fl_X11_111 (by subst ho; rfl) hd k
theorem fl_X11_114 : Cond.fieldLink RX11 114 RX11 (TX11 43).2.1 (TX11 43).2.2.1 ∈ TT := TT_at 1203 (by decide +kernel) rfl
theorem gf_X11_114 {Γ : Ctx} {cc : ByteArray} {nL d pc : Nat} {L : List (Nat × Value)} {st : List Value} {I : MI} {J : MJ} {o n : Nat} {o' : Nat} (X : Cx Γ cc nL RX11 d) (hs : shp[o]? = some (9, n)) (ho : o + 35 = o') (hd : decode cc pc = .ok (.getfield 114, 3)) (k : Wp Γ nL (pc + 3) L (.ref (ad Γ o') :: st) I J) : Wp Γ nL pc L (.ref (ad Γ o) :: st) I J := wp_get X hs (by decide) rfl in_X11 43 (by decide) rfl fl_X11_114 (by subst ho; rfl) hd k
theorem fl_X11_117 : Cond.fieldLink RX11 117 RX11 (TX11 44).2.1 (TX11 44).2.2.1 ∈ TT := TT_at 1204 (by decide +kernel) rfl
theorem gf_X11_117 {Γ : Ctx} {cc : ByteArray} {nL d pc : Nat} {L : List (Nat × Value)} {st : List Value} {I : MI} {J : MJ} {o n : Nat} {o' : Nat} (X : Cx Γ cc nL RX11 d) (hs : shp[o]? = some (9, n)) (ho : o + 36 = o') (hd : decode cc pc = .ok (.getfield 117, 3)) (k : Wp Γ nL (pc + 3) L (.ref (ad Γ o') :: st) I J) : Wp Γ nL pc L (.ref (ad Γ o) :: st) I J := wp_get X hs (by decide) rfl in_X11 44 (by decide) rfl fl_X11_117 (by subst ho; rfl) hd k
theorem fl_X11_120 : Cond.fieldLink RX11 120 RX11 (TX11 45).2.1 (TX11 45).2.2.1 ∈ TT := TT_at 1205 (by decide +kernel) rfl
theorem gf_X11_120 {Γ : Ctx} {cc : ByteArray} {nL d pc : Nat} {L : List (Nat × Value)} {st : List Value} {I : MI} {J : MJ} {o n : Nat} {o' : Nat} (X : Cx Γ cc nL RX11 d) (hs : shp[o]? = some (9, n)) (ho : o + 37 = o') (hd : decode cc pc = .ok (.getfield 120, 3)) (k : Wp Γ nL (pc + 3) L (.ref (ad Γ o') :: st) I J) : Wp Γ nL pc L (.ref (ad Γ o) :: st) I J := wp_get X hs (by decide) rfl in_X11 45 (by decide) rfl fl_X11_120 (by subst ho; rfl) hd k
theorem fl_X11_123 : Cond.fieldLink RX11 123 RX11 (TX11 51).2.1 (TX11 51).2.2.1 ∈ TT := TT_at 1211 (by decide +kernel) rfl
theorem gf_X11_123 {Γ : Ctx} {cc : ByteArray} {nL d pc : Nat} {L : List (Nat × Value)} {st : List Value} {I : MI} {J : MJ} {o n : Nat} {o' : Nat} (X : Cx Γ cc nL RX11 d) (hs : shp[o]? = some (9, n)) (ho : o + 38 = o') (hd : decode cc pc = .ok (.getfield 123, 3)) (k : Wp Γ nL (pc + 3) L (.ref (ad Γ o') :: st) I J) : Wp Γ nL pc L (.ref (ad Γ o) :: st) I J := wp_get X hs (by decide) rfl in_X11 51 (by decide) rfl fl_X11_123 (by subst ho; rfl) hd k
theorem fl_X11_126 : Cond.fieldLink RX11 126 RX11 (TX11 52).2.1 (TX11 52).2.2.1 ∈ TT := TT_at 1212 (by decide +kernel) rfl
theorem gf_X11_126 {Γ : Ctx} {cc : ByteArray} {nL d pc : Nat} {L : List (Nat × Value)} {st : List Value} {I : MI} {J : MJ} {o n : Nat} {o' : Nat} (X : Cx Γ cc nL RX11 d) (hs : shp[o]? = some (9, n)) (ho : o + 39 = o') (hd : decode cc pc = .ok (.getfield 126, 3)) (k : Wp Γ nL (pc + 3) L (.ref (ad Γ o') :: st) I J) : Wp Γ nL pc L (.ref (ad Γ o) :: st) I J := wp_get X hs (by decide) rfl in_X11 52 (by decide) rfl fl_X11_126 (by subst ho; rfl) hd k
theorem fl_X11_129 : Cond.fieldLink RX11 129 RX11 (TX11 57).2.1 (TX11 57).2.2.1 ∈ TT := TT_at 1217 (by decide +kernel) rfl
theorem gf_X11_129 {Γ : Ctx} {cc : ByteArray} {nL d pc : Nat} {L : List (Nat × Value)} {st : List Value} {I : MI} {J : MJ} {o n : Nat} {o' : Nat} (X : Cx Γ cc nL RX11 d) (hs : shp[o]? = some (9, n)) (ho : o + 40 = o') (hd : decode cc pc = .ok (.getfield 129, 3)) (k : Wp Γ nL (pc + 3) L (.ref (ad Γ o') :: st) I J) : Wp Γ nL pc L (.ref (ad Γ o) :: st) I J := wp_get X hs (by decide) rfl in_X11 57 (by decide) rfl fl_X11_129 (by subst ho; rfl) hd k
theorem fl_X11_132 : Cond.fieldLink RX11 132 RX11 (TX11 58).2.1 (TX11 58).2.2.1 ∈ TT := TT_at 1218 (by decide +kernel) rfl
theorem gf_X11_132 {Γ : Ctx} {cc : ByteArray} {nL d pc : Nat} {L : List (Nat × Value)} {st : List Value} {I : MI} {J : MJ} {o n : Nat} {o' : Nat} (X : Cx Γ cc nL RX11 d) (hs : shp[o]? = some (9, n)) (ho : o + 41 = o') (hd : decode cc pc = .ok (.getfield 132, 3)) (k : Wp Γ nL (pc + 3) L (.ref (ad Γ o') :: st) I J) : Wp Γ nL pc L (.ref (ad Γ o) :: st) I J := wp_get X hs (by decide) rfl in_X11 58 (by decide) rfl fl_X11_132 (by subst ho; rfl) hd k
theorem fl_X11_135 : Cond.fieldLink RX11 135 RX11 (TX11 60).2.1 (TX11 60).2.2.1 ∈ TT := TT_at 1220 (by decide +kernel) rfl
theorem gf_X11_135 {Γ : Ctx} {cc : ByteArray} {nL d pc : Nat} {L : List (Nat × Value)} {st : List Value} {I : MI} {J : MJ} {o n : Nat} {o' : Nat} (X : Cx Γ cc nL RX11 d) (hs : shp[o]? = some (9, n)) (ho : o + 42 = o') (hd : decode cc pc = .ok (.getfield 135, 3)) (k : Wp Γ nL (pc + 3) L (.ref (ad Γ o') :: st) I J) : Wp Γ nL pc L (.ref (ad Γ o) :: st) I J := wp_get X hs (by decide) rfl in_X11 60 (by decide) rfl fl_X11_135 (by subst ho; rfl) hd k
theorem fl_X11_138 : Cond.fieldLink RX11 138 RX11 (TX11 61).2.1 (TX11 61).2.2.1 ∈ TT := TT_at 1221 (by decide +kernel) rfl
theorem gf_X11_138 {Γ : Ctx} {cc : ByteArray} {nL d pc : Nat} {L : List (Nat × Value)} {st : List Value} {I : MI} {J : MJ} {o n : Nat} {o' : Nat} (X : Cx Γ cc nL RX11 d) (hs : shp[o]? = some (9, n)) (ho : o + 43 = o') (hd : decode cc pc = .ok (.getfield 138, 3)) (k : Wp Γ nL (pc + 3) L (.ref (ad Γ o') :: st) I J) : Wp Γ nL pc L (.ref (ad Γ o) :: st) I J := wp_get X hs (by decide) rfl in_X11 61 (by decide) rfl fl_X11_138 (by subst ho; rfl) hd k
theorem fl_X11_141 : Cond.fieldLink RX11 141 RX11 (TX11 13).2.1 (TX11 13).2.2.1 ∈ TT := TT_at 1173 (by decide +kernel) rfl
theorem gf_X11_141 {Γ : Ctx} {cc : ByteArray} {nL d pc : Nat} {L : List (Nat × Value)} {st : List Value} {I : MI} {J : MJ} {o n : Nat} (X : Cx Γ cc nL RX11 d) (hs : shp[o]? = some (9, n)) (hd : decode cc pc = .ok (.getfield 141, 3)) (k : Wp Γ nL (pc + 3) L (.int (I o 13) :: st) I J) : Wp Γ nL pc L (.ref (ad Γ o) :: st) I J := wp_get X hs (by decide) rfl in_X11 13 (by decide) rfl fl_X11_141 rfl hd k
theorem fs_9_13 {ad : Nat → Nat} {f : Nat → Int32} {h : Nat → Int64} {o : Nat} {x : Int32} : (flds ad 9 f h o).set 13 (.int x) = flds ad 9 (upd f 13 x) h o := by simp [flds, upd, vp_updL]
theorem pf_X11_141 {Γ : Ctx} {cc : ByteArray} {nL d pc : Nat} {L : List (Nat × Value)} {st : List Value} {I : MI} {J : MJ} {o n : Nat} {x : Int32} (X : Cx Γ cc nL RX11 d) (hs : shp[o]? = some (9, n)) (hd : decode cc pc = .ok (.putfield 141, 3)) (k : ∀ I' : MI, I' = (sI I o (upd (I o) 13 x)) → Wp Γ nL (pc + 3) L st I' J) : Wp Γ nL pc L (.int x :: .ref (ad Γ o) :: st) I J :=
  wp_put (I' := (sI I o (upd (I o) 13 x))) (J' := J) X hs (by decide) rfl in_X11 tyX11 tyX11_ok nmX11 13 (by decide) rfl fl_X11_141 rfl rfl rfl (Nat.le_of_ble_eq_true rfl) (by rw [fs_9_13, ← cel_o hs (by decide), wd_setI]) hd (k _ rfl)
theorem fl_X11_165 : Cond.fieldLink RX11 165 RX11 (TX11 14).2.1 (TX11 14).2.2.1 ∈ TT := TT_at 1174 (by decide +kernel) rfl
theorem gf_X11_165 {Γ : Ctx} {cc : ByteArray} {nL d pc : Nat} {L : List (Nat × Value)} {st : List Value} {I : MI} {J : MJ} {o n : Nat} (X : Cx Γ cc nL RX11 d) (hs : shp[o]? = some (9, n)) (hd : decode cc pc = .ok (.getfield 165, 3)) (k : Wp Γ nL (pc + 3) L (.int (I o 14) :: st) I J) : Wp Γ nL pc L (.ref (ad Γ o) :: st) I J := wp_get X hs (by decide) rfl in_X11 14 (by decide) rfl fl_X11_165 rfl hd k
theorem fs_9_14 {ad : Nat → Nat} {f : Nat → Int32} {h : Nat → Int64} {o : Nat} {x : Int32} : (flds ad 9 f h o).set 14 (.int x) = flds ad 9 (upd f 14 x) h o := by simp [flds, upd, vp_updL]
theorem pf_X11_165 {Γ : Ctx} {cc : ByteArray} {nL d pc : Nat} {L : List (Nat × Value)} {st : List Value} {I : MI} {J : MJ} {o n : Nat} {x : Int32} (X : Cx Γ cc nL RX11 d) (hs : shp[o]? = some (9, n)) (hd : decode cc pc = .ok (.putfield 165, 3)) (k : ∀ I' : MI, I' = (sI I o (upd (I o) 14 x)) → Wp Γ nL (pc + 3) L st I' J) : Wp Γ nL pc L (.int x :: .ref (ad Γ o) :: st) I J :=
  wp_put (I' := (sI I o (upd (I o) 14 x))) (J' := J) X hs (by decide) rfl in_X11 tyX11 tyX11_ok nmX11 14 (by decide) rfl fl_X11_165 rfl rfl rfl (Nat.le_of_ble_eq_true rfl) (by rw [fs_9_14, ← cel_o hs (by decide), wd_setI]) hd (k _ rfl)
theorem fl_X11_172 : Cond.fieldLink RX11 172 RX11 (TX11 15).2.1 (TX11 15).2.2.1 ∈ TT := TT_at 1175 (by decide +kernel) rfl
theorem gf_X11_172 {Γ : Ctx} {cc : ByteArray} {nL d pc : Nat} {L : List (Nat × Value)} {st : List Value} {I : MI} {J : MJ} {o n : Nat} (X : Cx Γ cc nL RX11 d) (hs : shp[o]? = some (9, n)) (hd : decode cc pc = .ok (.getfield 172, 3)) (k : Wp Γ nL (pc + 3) L (.int (I o 15) :: st) I J) : Wp Γ nL pc L (.ref (ad Γ o) :: st) I J := wp_get X hs (by decide) rfl in_X11 15 (by decide) rfl fl_X11_172 rfl hd k
theorem fs_9_15 {ad : Nat → Nat} {f : Nat → Int32} {h : Nat → Int64} {o : Nat} {x : Int32} : (flds ad 9 f h o).set 15 (.int x) = flds ad 9 (upd f 15 x) h o := by simp [flds, upd, vp_updL]
theorem pf_X11_172 {Γ : Ctx} {cc : ByteArray} {nL d pc : Nat} {L : List (Nat × Value)} {st : List Value} {I : MI} {J : MJ} {o n : Nat} {x : Int32} (X : Cx Γ cc nL RX11 d) (hs : shp[o]? = some (9, n)) (hd : decode cc pc = .ok (.putfield 172, 3)) (k : ∀ I' : MI, I' = (sI I o (upd (I o) 15 x)) → Wp Γ nL (pc + 3) L st I' J) : Wp Γ nL pc L (.int x :: .ref (ad Γ o) :: st) I J :=
  wp_put (I' := (sI I o (upd (I o) 15 x))) (J' := J) X hs (by decide) rfl in_X11 tyX11 tyX11_ok nmX11 15 (by decide) rfl fl_X11_172 rfl rfl rfl (Nat.le_of_ble_eq_true rfl) (by rw [fs_9_15, ← cel_o hs (by decide), wd_setI]) hd (k _ rfl)
theorem fl_X11_190 : Cond.fieldLink RX11 190 RX11 (TX11 16).2.1 (TX11 16).2.2.1 ∈ TT := TT_at 1176 (by decide +kernel) rfl
theorem gf_X11_190 {Γ : Ctx} {cc : ByteArray} {nL d pc : Nat} {L : List (Nat × Value)} {st : List Value} {I : MI} {J : MJ} {o n : Nat} (X : Cx Γ cc nL RX11 d) (hs : shp[o]? = some (9, n)) (hd : decode cc pc = .ok (.getfield 190, 3)) (k : Wp Γ nL (pc + 3) L (.int (I o 16) :: st) I J) : Wp Γ nL pc L (.ref (ad Γ o) :: st) I J := wp_get X hs (by decide) rfl in_X11 16 (by decide) rfl fl_X11_190 rfl hd k
theorem fs_9_16 {ad : Nat → Nat} {f : Nat → Int32} {h : Nat → Int64} {o : Nat} {x : Int32} : (flds ad 9 f h o).set 16 (.int x) = flds ad 9 (upd f 16 x) h o := by simp [flds, upd, vp_updL]
theorem pf_X11_190 {Γ : Ctx} {cc : ByteArray} {nL d pc : Nat} {L : List (Nat × Value)} {st : List Value} {I : MI} {J : MJ} {o n : Nat} {x : Int32} (X : Cx Γ cc nL RX11 d) (hs : shp[o]? = some (9, n)) (hd : decode cc pc = .ok (.putfield 190, 3)) (k : ∀ I' : MI, I' = (sI I o (upd (I o) 16 x)) → Wp Γ nL (pc + 3) L st I' J) : Wp Γ nL pc L (.int x :: .ref (ad Γ o) :: st) I J :=
  wp_put (I' := (sI I o (upd (I o) 16 x))) (J' := J) X hs (by decide) rfl in_X11 tyX11 tyX11_ok nmX11 16 (by decide) rfl fl_X11_190 rfl rfl rfl (Nat.le_of_ble_eq_true rfl) (by rw [fs_9_16, ← cel_o hs (by decide), wd_setI]) hd (k _ rfl)
theorem fl_X11_235 : Cond.fieldLink RX11 235 RX11 (TX11 26).2.1 (TX11 26).2.2.1 ∈ TT := TT_at 1186 (by decide +kernel) rfl
theorem gf_X11_235 {Γ : Ctx} {cc : ByteArray} {nL d pc : Nat} {L : List (Nat × Value)} {st : List Value} {I : MI} {J : MJ} {o n : Nat} (X : Cx Γ cc nL RX11 d) (hs : shp[o]? = some (9, n)) (hd : decode cc pc = .ok (.getfield 235, 3)) (k : Wp Γ nL (pc + 3) L (.int (I o 26) :: st) I J) : Wp Γ nL pc L (.ref (ad Γ o) :: st) I J := wp_get X hs (by decide) rfl in_X11 26 (by decide) rfl fl_X11_235 rfl hd k
theorem fs_9_26 {ad : Nat → Nat} {f : Nat → Int32} {h : Nat → Int64} {o : Nat} {x : Int32} : (flds ad 9 f h o).set 26 (.int x) = flds ad 9 (upd f 26 x) h o := by simp [flds, upd, vp_updL]
theorem pf_X11_235 {Γ : Ctx} {cc : ByteArray} {nL d pc : Nat} {L : List (Nat × Value)} {st : List Value} {I : MI} {J : MJ} {o n : Nat} {x : Int32} (X : Cx Γ cc nL RX11 d) (hs : shp[o]? = some (9, n)) (hd : decode cc pc = .ok (.putfield 235, 3)) (k : ∀ I' : MI, I' = (sI I o (upd (I o) 26 x)) → Wp Γ nL (pc + 3) L st I' J) : Wp Γ nL pc L (.int x :: .ref (ad Γ o) :: st) I J :=
  wp_put (I' := (sI I o (upd (I o) 26 x))) (J' := J) X hs (by decide) rfl in_X11 tyX11 tyX11_ok nmX11 26 (by decide) rfl fl_X11_235 rfl rfl rfl (Nat.le_of_ble_eq_true rfl) (by rw [fs_9_26, ← cel_o hs (by decide), wd_setI]) hd (k _ rfl)
theorem fl_X11_288 : Cond.fieldLink RX11 288 RX11 (TX11 39).2.1 (TX11 39).2.2.1 ∈ TT := TT_at 1199 (by decide +kernel) rfl
theorem gf_X11_288 {Γ : Ctx} {cc : ByteArray} {nL d pc : Nat} {L : List (Nat × Value)} {st : List Value} {I : MI} {J : MJ} {o n : Nat} (X : Cx Γ cc nL RX11 d) (hs : shp[o]? = some (9, n)) (hd : decode cc pc = .ok (.getfield 288, 3)) (k : Wp Γ nL (pc + 3) L (.int (I o 39) :: st) I J) : Wp Γ nL pc L (.ref (ad Γ o) :: st) I J := wp_get X hs (by decide) rfl in_X11 39 (by decide) rfl fl_X11_288 rfl hd k
theorem fs_9_39 {ad : Nat → Nat} {f : Nat → Int32} {h : Nat → Int64} {o : Nat} {x : Int32} : (flds ad 9 f h o).set 39 (.int x) = flds ad 9 (upd f 39 x) h o := by simp [flds, upd, vp_updL]
theorem pf_X11_288 {Γ : Ctx} {cc : ByteArray} {nL d pc : Nat} {L : List (Nat × Value)} {st : List Value} {I : MI} {J : MJ} {o n : Nat} {x : Int32} (X : Cx Γ cc nL RX11 d) (hs : shp[o]? = some (9, n)) (hd : decode cc pc = .ok (.putfield 288, 3)) (k : ∀ I' : MI, I' = (sI I o (upd (I o) 39 x)) → Wp Γ nL (pc + 3) L st I' J) : Wp Γ nL pc L (.int x :: .ref (ad Γ o) :: st) I J :=
  wp_put (I' := (sI I o (upd (I o) 39 x))) (J' := J) X hs (by decide) rfl in_X11 tyX11 tyX11_ok nmX11 39 (by decide) rfl fl_X11_288 rfl rfl rfl (Nat.le_of_ble_eq_true rfl) (by rw [fs_9_39, ← cel_o hs (by decide), wd_setI]) hd (k _ rfl)
theorem fl_X11_291 : Cond.fieldLink RX11 291 RX11 (TX11 40).2.1 (TX11 40).2.2.1 ∈ TT := TT_at 1200 (by decide +kernel) rfl
theorem gf_X11_291 {Γ : Ctx} {cc : ByteArray} {nL d pc : Nat} {L : List (Nat × Value)} {st : List Value} {I : MI} {J : MJ} {o n : Nat} (X : Cx Γ cc nL RX11 d) (hs : shp[o]? = some (9, n)) (hd : decode cc pc = .ok (.getfield 291, 3)) (k : Wp Γ nL (pc + 3) L (.int (I o 40) :: st) I J) : Wp Γ nL pc L (.ref (ad Γ o) :: st) I J := wp_get X hs (by decide) rfl in_X11 40 (by decide) rfl fl_X11_291 rfl hd k
theorem fs_9_40 {ad : Nat → Nat} {f : Nat → Int32} {h : Nat → Int64} {o : Nat} {x : Int32} : (flds ad 9 f h o).set 40 (.int x) = flds ad 9 (upd f 40 x) h o := by simp [flds, upd, vp_updL]
theorem pf_X11_291 {Γ : Ctx} {cc : ByteArray} {nL d pc : Nat} {L : List (Nat × Value)} {st : List Value} {I : MI} {J : MJ} {o n : Nat} {x : Int32} (X : Cx Γ cc nL RX11 d) (hs : shp[o]? = some (9, n)) (hd : decode cc pc = .ok (.putfield 291, 3)) (k : ∀ I' : MI, I' = (sI I o (upd (I o) 40 x)) → Wp Γ nL (pc + 3) L st I' J) : Wp Γ nL pc L (.int x :: .ref (ad Γ o) :: st) I J :=
  wp_put (I' := (sI I o (upd (I o) 40 x))) (J' := J) X hs (by decide) rfl in_X11 tyX11 tyX11_ok nmX11 40 (by decide) rfl fl_X11_291 rfl rfl rfl (Nat.le_of_ble_eq_true rfl) (by rw [fs_9_40, ← cel_o hs (by decide), wd_setI]) hd (k _ rfl)
theorem fl_X11_303 : Cond.fieldLink RX11 303 RX11 (TX11 32).2.1 (TX11 32).2.2.1 ∈ TT := TT_at 1192 (by decide +kernel) rfl
theorem gf_X11_303 {Γ : Ctx} {cc : ByteArray} {nL d pc : Nat} {L : List (Nat × Value)} {st : List Value} {I : MI} {J : MJ} {o n : Nat} (X : Cx Γ cc nL RX11 d) (hs : shp[o]? = some (9, n)) (hd : decode cc pc = .ok (.getfield 303, 3)) (k : Wp Γ nL (pc + 3) L (.int (I o 32) :: st) I J) : Wp Γ nL pc L (.ref (ad Γ o) :: st) I J := wp_get X hs (by decide) rfl in_X11 32 (by decide) rfl fl_X11_303 rfl hd k
theorem fs_9_32 {ad : Nat → Nat} {f : Nat → Int32} {h : Nat → Int64} {o : Nat} {x : Int32} : (flds ad 9 f h o).set 32 (.int x) = flds ad 9 (upd f 32 x) h o := by simp [flds, upd, vp_updL]
theorem pf_X11_303 {Γ : Ctx} {cc : ByteArray} {nL d pc : Nat} {L : List (Nat × Value)} {st : List Value} {I : MI} {J : MJ} {o n : Nat} {x : Int32} (X : Cx Γ cc nL RX11 d) (hs : shp[o]? = some (9, n)) (hd : decode cc pc = .ok (.putfield 303, 3)) (k : ∀ I' : MI, I' = (sI I o (upd (I o) 32 x)) → Wp Γ nL (pc + 3) L st I' J) : Wp Γ nL pc L (.int x :: .ref (ad Γ o) :: st) I J :=
  wp_put (I' := (sI I o (upd (I o) 32 x))) (J' := J) X hs (by decide) rfl in_X11 tyX11 tyX11_ok nmX11 32 (by decide) rfl fl_X11_303 rfl rfl rfl (Nat.le_of_ble_eq_true rfl) (by rw [fs_9_32, ← cel_o hs (by decide), wd_setI]) hd (k _ rfl)
theorem fl_X11_335 : Cond.fieldLink RX11 335 RX11 (TX11 46).2.1 (TX11 46).2.2.1 ∈ TT := TT_at 1206 (by decide +kernel) rfl
theorem gf_X11_335 {Γ : Ctx} {cc : ByteArray} {nL d pc : Nat} {L : List (Nat × Value)} {st : List Value} {I : MI} {J : MJ} {o n : Nat} (X : Cx Γ cc nL RX11 d) (hs : shp[o]? = some (9, n)) (hd : decode cc pc = .ok (.getfield 335, 3)) (k : Wp Γ nL (pc + 3) L (.int (I o 46) :: st) I J) : Wp Γ nL pc L (.ref (ad Γ o) :: st) I J := wp_get X hs (by decide) rfl in_X11 46 (by decide) rfl fl_X11_335 rfl hd k
theorem fs_9_46 {ad : Nat → Nat} {f : Nat → Int32} {h : Nat → Int64} {o : Nat} {x : Int32} : (flds ad 9 f h o).set 46 (.int x) = flds ad 9 (upd f 46 x) h o := by simp [flds, upd, vp_updL]
theorem pf_X11_335 {Γ : Ctx} {cc : ByteArray} {nL d pc : Nat} {L : List (Nat × Value)} {st : List Value} {I : MI} {J : MJ} {o n : Nat} {x : Int32} (X : Cx Γ cc nL RX11 d) (hs : shp[o]? = some (9, n)) (hd : decode cc pc = .ok (.putfield 335, 3)) (k : ∀ I' : MI, I' = (sI I o (upd (I o) 46 x)) → Wp Γ nL (pc + 3) L st I' J) : Wp Γ nL pc L (.int x :: .ref (ad Γ o) :: st) I J :=
  wp_put (I' := (sI I o (upd (I o) 46 x))) (J' := J) X hs (by decide) rfl in_X11 tyX11 tyX11_ok nmX11 46 (by decide) rfl fl_X11_335 rfl rfl rfl (Nat.le_of_ble_eq_true rfl) (by rw [fs_9_46, ← cel_o hs (by decide), wd_setI]) hd (k _ rfl)
theorem fl_X11_338 : Cond.fieldLink RX11 338 RX11 (TX11 47).2.1 (TX11 47).2.2.1 ∈ TT := TT_at 1207 (by decide +kernel) rfl
theorem gf_X11_338 {Γ : Ctx} {cc : ByteArray} {nL d pc : Nat} {L : List (Nat × Value)} {st : List Value} {I : MI} {J : MJ} {o n : Nat} (X : Cx Γ cc nL RX11 d) (hs : shp[o]? = some (9, n)) (hd : decode cc pc = .ok (.getfield 338, 3)) (k : Wp Γ nL (pc + 3) L (.int (I o 47) :: st) I J) : Wp Γ nL pc L (.ref (ad Γ o) :: st) I J := wp_get X hs (by decide) rfl in_X11 47 (by decide) rfl fl_X11_338 rfl hd k
theorem fs_9_47 {ad : Nat → Nat} {f : Nat → Int32} {h : Nat → Int64} {o : Nat} {x : Int32} : (flds ad 9 f h o).set 47 (.int x) = flds ad 9 (upd f 47 x) h o := by simp [flds, upd, vp_updL]
theorem pf_X11_338 {Γ : Ctx} {cc : ByteArray} {nL d pc : Nat} {L : List (Nat × Value)} {st : List Value} {I : MI} {J : MJ} {o n : Nat} {x : Int32} (X : Cx Γ cc nL RX11 d) (hs : shp[o]? = some (9, n)) (hd : decode cc pc = .ok (.putfield 338, 3)) (k : ∀ I' : MI, I' = (sI I o (upd (I o) 47 x)) → Wp Γ nL (pc + 3) L st I' J) : Wp Γ nL pc L (.int x :: .ref (ad Γ o) :: st) I J :=
  wp_put (I' := (sI I o (upd (I o) 47 x))) (J' := J) X hs (by decide) rfl in_X11 tyX11 tyX11_ok nmX11 47 (by decide) rfl fl_X11_338 rfl rfl rfl (Nat.le_of_ble_eq_true rfl) (by rw [fs_9_47, ← cel_o hs (by decide), wd_setI]) hd (k _ rfl)
theorem fl_X11_341 : Cond.fieldLink RX11 341 RX11 (TX11 48).2.1 (TX11 48).2.2.1 ∈ TT := TT_at 1208 (by decide +kernel) rfl
theorem gf_X11_341 {Γ : Ctx} {cc : ByteArray} {nL d pc : Nat} {L : List (Nat × Value)} {st : List Value} {I : MI} {J : MJ} {o n : Nat} (X : Cx Γ cc nL RX11 d) (hs : shp[o]? = some (9, n)) (hd : decode cc pc = .ok (.getfield 341, 3)) (k : Wp Γ nL (pc + 3) L (.int (I o 48) :: st) I J) : Wp Γ nL pc L (.ref (ad Γ o) :: st) I J := wp_get X hs (by decide) rfl in_X11 48 (by decide) rfl fl_X11_341 rfl hd k
theorem fs_9_48 {ad : Nat → Nat} {f : Nat → Int32} {h : Nat → Int64} {o : Nat} {x : Int32} : (flds ad 9 f h o).set 48 (.int x) = flds ad 9 (upd f 48 x) h o := by simp [flds, upd, vp_updL]
theorem pf_X11_341 {Γ : Ctx} {cc : ByteArray} {nL d pc : Nat} {L : List (Nat × Value)} {st : List Value} {I : MI} {J : MJ} {o n : Nat} {x : Int32} (X : Cx Γ cc nL RX11 d) (hs : shp[o]? = some (9, n)) (hd : decode cc pc = .ok (.putfield 341, 3)) (k : ∀ I' : MI, I' = (sI I o (upd (I o) 48 x)) → Wp Γ nL (pc + 3) L st I' J) : Wp Γ nL pc L (.int x :: .ref (ad Γ o) :: st) I J :=
  wp_put (I' := (sI I o (upd (I o) 48 x))) (J' := J) X hs (by decide) rfl in_X11 tyX11 tyX11_ok nmX11 48 (by decide) rfl fl_X11_341 rfl rfl rfl (Nat.le_of_ble_eq_true rfl) (by rw [fs_9_48, ← cel_o hs (by decide), wd_setI]) hd (k _ rfl)
theorem fl_X11_344 : Cond.fieldLink RX11 344 RX11 (TX11 42).2.1 (TX11 42).2.2.1 ∈ TT := TT_at 1202 (by decide +kernel) rfl
theorem gf_X11_344 {Γ : Ctx} {cc : ByteArray} {nL d pc : Nat} {L : List (Nat × Value)} {st : List Value} {I : MI} {J : MJ} {o n : Nat} (X : Cx Γ cc nL RX11 d) (hs : shp[o]? = some (9, n)) (hd : decode cc pc = .ok (.getfield 344, 3)) (k : Wp Γ nL (pc + 3) L (.int (I o 42) :: st) I J) : Wp Γ nL pc L (.ref (ad Γ o) :: st) I J := wp_get X hs (by decide) rfl in_X11 42 (by decide) rfl fl_X11_344 rfl hd k
theorem fs_9_42 {ad : Nat → Nat} {f : Nat → Int32} {h : Nat → Int64} {o : Nat} {x : Int32} : (flds ad 9 f h o).set 42 (.int x) = flds ad 9 (upd f 42 x) h o := by simp [flds, upd, vp_updL]
theorem pf_X11_344 {Γ : Ctx} {cc : ByteArray} {nL d pc : Nat} {L : List (Nat × Value)} {st : List Value} {I : MI} {J : MJ} {o n : Nat} {x : Int32} (X : Cx Γ cc nL RX11 d) (hs : shp[o]? = some (9, n)) (hd : decode cc pc = .ok (.putfield 344, 3)) (k : ∀ I' : MI, I' = (sI I o (upd (I o) 42 x)) → Wp Γ nL (pc + 3) L st I' J) : Wp Γ nL pc L (.int x :: .ref (ad Γ o) :: st) I J :=
  wp_put (I' := (sI I o (upd (I o) 42 x))) (J' := J) X hs (by decide) rfl in_X11 tyX11 tyX11_ok nmX11 42 (by decide) rfl fl_X11_344 rfl rfl rfl (Nat.le_of_ble_eq_true rfl) (by rw [fs_9_42, ← cel_o hs (by decide), wd_setI]) hd (k _ rfl)
theorem fl_X11_360 : Cond.fieldLink RX11 360 RX11 (TX11 54).2.1 (TX11 54).2.2.1 ∈ TT := TT_at 1214 (by decide +kernel) rfl
theorem gf_X11_360 {Γ : Ctx} {cc : ByteArray} {nL d pc : Nat} {L : List (Nat × Value)} {st : List Value} {I : MI} {J : MJ} {o n : Nat} (X : Cx Γ cc nL RX11 d) (hs : shp[o]? = some (9, n)) (hd : decode cc pc = .ok (.getfield 360, 3)) (k : Wp Γ nL (pc + 3) L (.int (I o 54) :: st) I J) : Wp Γ nL pc L (.ref (ad Γ o) :: st) I J := wp_get X hs (by decide) rfl in_X11 54 (by decide) rfl fl_X11_360 rfl hd k
theorem fs_9_54 {ad : Nat → Nat} {f : Nat → Int32} {h : Nat → Int64} {o : Nat} {x : Int32} : (flds ad 9 f h o).set 54 (.int x) = flds ad 9 (upd f 54 x) h o := by simp [flds, upd, vp_updL]
theorem pf_X11_360 {Γ : Ctx} {cc : ByteArray} {nL d pc : Nat} {L : List (Nat × Value)} {st : List Value} {I : MI} {J : MJ} {o n : Nat} {x : Int32} (X : Cx Γ cc nL RX11 d) (hs : shp[o]? = some (9, n)) (hd : decode cc pc = .ok (.putfield 360, 3)) (k : ∀ I' : MI, I' = (sI I o (upd (I o) 54 x)) → Wp Γ nL (pc + 3) L st I' J) : Wp Γ nL pc L (.int x :: .ref (ad Γ o) :: st) I J :=
  wp_put (I' := (sI I o (upd (I o) 54 x))) (J' := J) X hs (by decide) rfl in_X11 tyX11 tyX11_ok nmX11 54 (by decide) rfl fl_X11_360 rfl rfl rfl (Nat.le_of_ble_eq_true rfl) (by rw [fs_9_54, ← cel_o hs (by decide), wd_setI]) hd (k _ rfl)
theorem fl_X11_367 : Cond.fieldLink RX11 367 RX11 (TX11 53).2.1 (TX11 53).2.2.1 ∈ TT := TT_at 1213 (by decide +kernel) rfl
theorem gf_X11_367 {Γ : Ctx} {cc : ByteArray} {nL d pc : Nat} {L : List (Nat × Value)} {st : List Value} {I : MI} {J : MJ} {o n : Nat} (X : Cx Γ cc nL RX11 d) (hs : shp[o]? = some (9, n)) (hd : decode cc pc = .ok (.getfield 367, 3)) (k : Wp Γ nL (pc + 3) L (.int (I o 53) :: st) I J) : Wp Γ nL pc L (.ref (ad Γ o) :: st) I J := wp_get X hs (by decide) rfl in_X11 53 (by decide) rfl fl_X11_367 rfl hd k
theorem fs_9_53 {ad : Nat → Nat} {f : Nat → Int32} {h : Nat → Int64} {o : Nat} {x : Int32} : (flds ad 9 f h o).set 53 (.int x) = flds ad 9 (upd f 53 x) h o := by simp [flds, upd, vp_updL]
theorem pf_X11_367 {Γ : Ctx} {cc : ByteArray} {nL d pc : Nat} {L : List (Nat × Value)} {st : List Value} {I : MI} {J : MJ} {o n : Nat} {x : Int32} (X : Cx Γ cc nL RX11 d) (hs : shp[o]? = some (9, n)) (hd : decode cc pc = .ok (.putfield 367, 3)) (k : ∀ I' : MI, I' = (sI I o (upd (I o) 53 x)) → Wp Γ nL (pc + 3) L st I' J) : Wp Γ nL pc L (.int x :: .ref (ad Γ o) :: st) I J :=
  wp_put (I' := (sI I o (upd (I o) 53 x))) (J' := J) X hs (by decide) rfl in_X11 tyX11 tyX11_ok nmX11 53 (by decide) rfl fl_X11_367 rfl rfl rfl (Nat.le_of_ble_eq_true rfl) (by rw [fs_9_53, ← cel_o hs (by decide), wd_setI]) hd (k _ rfl)
theorem fl_X11_382 : Cond.fieldLink RX11 382 RX11 (TX11 56).2.1 (TX11 56).2.2.1 ∈ TT := TT_at 1216 (by decide +kernel) rfl
theorem gf_X11_382 {Γ : Ctx} {cc : ByteArray} {nL d pc : Nat} {L : List (Nat × Value)} {st : List Value} {I : MI} {J : MJ} {o n : Nat} (X : Cx Γ cc nL RX11 d) (hs : shp[o]? = some (9, n)) (hd : decode cc pc = .ok (.getfield 382, 3)) (k : Wp Γ nL (pc + 3) L (.int (I o 56) :: st) I J) : Wp Γ nL pc L (.ref (ad Γ o) :: st) I J := wp_get X hs (by decide) rfl in_X11 56 (by decide) rfl fl_X11_382 rfl hd k
theorem fs_9_56 {ad : Nat → Nat} {f : Nat → Int32} {h : Nat → Int64} {o : Nat} {x : Int32} : (flds ad 9 f h o).set 56 (.int x) = flds ad 9 (upd f 56 x) h o := by simp [flds, upd, vp_updL]
theorem pf_X11_382 {Γ : Ctx} {cc : ByteArray} {nL d pc : Nat} {L : List (Nat × Value)} {st : List Value} {I : MI} {J : MJ} {o n : Nat} {x : Int32} (X : Cx Γ cc nL RX11 d) (hs : shp[o]? = some (9, n)) (hd : decode cc pc = .ok (.putfield 382, 3)) (k : ∀ I' : MI, I' = (sI I o (upd (I o) 56 x)) → Wp Γ nL (pc + 3) L st I' J) : Wp Γ nL pc L (.int x :: .ref (ad Γ o) :: st) I J :=
  wp_put (I' := (sI I o (upd (I o) 56 x))) (J' := J) X hs (by decide) rfl in_X11 tyX11 tyX11_ok nmX11 56 (by decide) rfl fl_X11_382 rfl rfl rfl (Nat.le_of_ble_eq_true rfl) (by rw [fs_9_56, ← cel_o hs (by decide), wd_setI]) hd (k _ rfl)
theorem fl_X11_385 : Cond.fieldLink RX11 385 RX11 (TX11 50).2.1 (TX11 50).2.2.1 ∈ TT := TT_at 1210 (by decide +kernel) rfl
theorem gf_X11_385 {Γ : Ctx} {cc : ByteArray} {nL d pc : Nat} {L : List (Nat × Value)} {st : List Value} {I : MI} {J : MJ} {o n : Nat} (X : Cx Γ cc nL RX11 d) (hs : shp[o]? = some (9, n)) (hd : decode cc pc = .ok (.getfield 385, 3)) (k : Wp Γ nL (pc + 3) L (.int (I o 50) :: st) I J) : Wp Γ nL pc L (.ref (ad Γ o) :: st) I J := wp_get X hs (by decide) rfl in_X11 50 (by decide) rfl fl_X11_385 rfl hd k
theorem fs_9_50 {ad : Nat → Nat} {f : Nat → Int32} {h : Nat → Int64} {o : Nat} {x : Int32} : (flds ad 9 f h o).set 50 (.int x) = flds ad 9 (upd f 50 x) h o := by simp [flds, upd, vp_updL]
theorem pf_X11_385 {Γ : Ctx} {cc : ByteArray} {nL d pc : Nat} {L : List (Nat × Value)} {st : List Value} {I : MI} {J : MJ} {o n : Nat} {x : Int32} (X : Cx Γ cc nL RX11 d) (hs : shp[o]? = some (9, n)) (hd : decode cc pc = .ok (.putfield 385, 3)) (k : ∀ I' : MI, I' = (sI I o (upd (I o) 50 x)) → Wp Γ nL (pc + 3) L st I' J) : Wp Γ nL pc L (.int x :: .ref (ad Γ o) :: st) I J :=
  wp_put (I' := (sI I o (upd (I o) 50 x))) (J' := J) X hs (by decide) rfl in_X11 tyX11 tyX11_ok nmX11 50 (by decide) rfl fl_X11_385 rfl rfl rfl (Nat.le_of_ble_eq_true rfl) (by rw [fs_9_50, ← cel_o hs (by decide), wd_setI]) hd (k _ rfl)
theorem fl_X11_388 : Cond.fieldLink RX11 388 RX11 (TX11 49).2.1 (TX11 49).2.2.1 ∈ TT := TT_at 1209 (by decide +kernel) rfl
theorem gf_X11_388 {Γ : Ctx} {cc : ByteArray} {nL d pc : Nat} {L : List (Nat × Value)} {st : List Value} {I : MI} {J : MJ} {o n : Nat} (X : Cx Γ cc nL RX11 d) (hs : shp[o]? = some (9, n)) (hd : decode cc pc = .ok (.getfield 388, 3)) (k : Wp Γ nL (pc + 3) L (.int (I o 49) :: st) I J) : Wp Γ nL pc L (.ref (ad Γ o) :: st) I J := wp_get X hs (by decide) rfl in_X11 49 (by decide) rfl fl_X11_388 rfl hd k
theorem fs_9_49 {ad : Nat → Nat} {f : Nat → Int32} {h : Nat → Int64} {o : Nat} {x : Int32} : (flds ad 9 f h o).set 49 (.int x) = flds ad 9 (upd f 49 x) h o := by simp [flds, upd, vp_updL]
theorem pf_X11_388 {Γ : Ctx} {cc : ByteArray} {nL d pc : Nat} {L : List (Nat × Value)} {st : List Value} {I : MI} {J : MJ} {o n : Nat} {x : Int32} (X : Cx Γ cc nL RX11 d) (hs : shp[o]? = some (9, n)) (hz : x = 0 ∨ x = 1) (hd : decode cc pc = .ok (.putfield 388, 3)) (k : ∀ I' : MI, I' = (sI I o (upd (I o) 49 x)) → Wp Γ nL (pc + 3) L st I' J) : Wp Γ nL pc L (.int x :: .ref (ad Γ o) :: st) I J :=
  wp_put (I' := (sI I o (upd (I o) 49 x))) (J' := J) X hs (by decide) rfl in_X11 tyX11 tyX11_ok nmX11 49 (by decide) rfl fl_X11_388 rfl (by rcases hz with rfl | rfl <;> decide) (by rcases hz with rfl | rfl <;> decide) (Nat.le_of_ble_eq_true rfl) (by rw [fs_9_49, ← cel_o hs (by decide), wd_setI]) hd (k _ rfl)
theorem fl_X11_392 : Cond.fieldLink RX11 392 RX11 (TX11 55).2.1 (TX11 55).2.2.1 ∈ TT := TT_at 1215 (by decide +kernel) rfl
theorem gf_X11_392 {Γ : Ctx} {cc : ByteArray} {nL d pc : Nat} {L : List (Nat × Value)} {st : List Value} {I : MI} {J : MJ} {o n : Nat} (X : Cx Γ cc nL RX11 d) (hs : shp[o]? = some (9, n)) (hd : decode cc pc = .ok (.getfield 392, 3)) (k : Wp Γ nL (pc + 3) L (.long (J o 55) :: st) I J) : Wp Γ nL pc L (.ref (ad Γ o) :: st) I J := wp_get X hs (by decide) rfl in_X11 55 (by decide) rfl fl_X11_392 rfl hd k
theorem fs_9_55 {ad : Nat → Nat} {f : Nat → Int32} {h : Nat → Int64} {o : Nat} {x : Int64} : (flds ad 9 f h o).set 55 (.long x) = flds ad 9 f (vp_updL h 55 x) o := by simp [flds, upd, vp_updL]
theorem pf_X11_392 {Γ : Ctx} {cc : ByteArray} {nL d pc : Nat} {L : List (Nat × Value)} {st : List Value} {I : MI} {J : MJ} {o n : Nat} {x : Int64} (X : Cx Γ cc nL RX11 d) (hs : shp[o]? = some (9, n)) (hd : decode cc pc = .ok (.putfield 392, 3)) (k : ∀ J' : MJ, J' = (sJ J o (vp_updL (J o) 55 x)) → Wp Γ nL (pc + 3) L st I J') : Wp Γ nL pc L (.long x :: .ref (ad Γ o) :: st) I J :=
  wp_put (I' := I) (J' := (sJ J o (vp_updL (J o) 55 x))) X hs (by decide) rfl in_X11 tyX11 tyX11_ok nmX11 55 (by decide) rfl fl_X11_392 rfl rfl rfl (Nat.le_of_ble_eq_true rfl) (by rw [fs_9_55, ← cel_o hs (by decide), wd_setJ]) hd (k _ rfl)
theorem fl_X11_405 : Cond.fieldLink RX11 405 RX11 (TX11 59).2.1 (TX11 59).2.2.1 ∈ TT := TT_at 1219 (by decide +kernel) rfl
theorem gf_X11_405 {Γ : Ctx} {cc : ByteArray} {nL d pc : Nat} {L : List (Nat × Value)} {st : List Value} {I : MI} {J : MJ} {o n : Nat} (X : Cx Γ cc nL RX11 d) (hs : shp[o]? = some (9, n)) (hd : decode cc pc = .ok (.getfield 405, 3)) (k : Wp Γ nL (pc + 3) L (.int (I o 59) :: st) I J) : Wp Γ nL pc L (.ref (ad Γ o) :: st) I J := wp_get X hs (by decide) rfl in_X11 59 (by decide) rfl fl_X11_405 rfl hd k
theorem fs_9_59 {ad : Nat → Nat} {f : Nat → Int32} {h : Nat → Int64} {o : Nat} {x : Int32} : (flds ad 9 f h o).set 59 (.int x) = flds ad 9 (upd f 59 x) h o := by simp [flds, upd, vp_updL]
theorem pf_X11_405 {Γ : Ctx} {cc : ByteArray} {nL d pc : Nat} {L : List (Nat × Value)} {st : List Value} {I : MI} {J : MJ} {o n : Nat} {x : Int32} (X : Cx Γ cc nL RX11 d) (hs : shp[o]? = some (9, n)) (hd : decode cc pc = .ok (.putfield 405, 3)) (k : ∀ I' : MI, I' = (sI I o (upd (I o) 59 x)) → Wp Γ nL (pc + 3) L st I' J) : Wp Γ nL pc L (.int x :: .ref (ad Γ o) :: st) I J :=
  wp_put (I' := (sI I o (upd (I o) 59 x))) (J' := J) X hs (by decide) rfl in_X11 tyX11 tyX11_ok nmX11 59 (by decide) rfl fl_X11_405 rfl rfl rfl (Nat.le_of_ble_eq_true rfl) (by rw [fs_9_59, ← cel_o hs (by decide), wd_setI]) hd (k _ rfl)
