theorem dX11_findLeast_0 : decode cX11_findLeast 0 = .ok (.aload_n 0, 1) := by decide +kernel
theorem dX11_findLeast_1 : decode cX11_findLeast 1 = .ok (.iload_n 1, 1) := by decide +kernel
theorem dX11_findLeast_2 : decode cX11_findLeast 2 = .ok (.invokevirtual 199, 3) := by decide +kernel
theorem dX11_findLeast_5 : decode cX11_findLeast 5 = .ok (.ifCond .ne 5, 3) := by decide +kernel
theorem dX11_findLeast_8 : decode cX11_findLeast 8 = .ok (.iconst 0, 1) := by decide +kernel
theorem dX11_findLeast_9 : decode cX11_findLeast 9 = .ok (.ireturn, 1) := by decide +kernel
theorem dX11_findLeast_10 : decode cX11_findLeast 10 = .ok (.aload_n 0, 1) := by decide +kernel
theorem dX11_findLeast_11 : decode cX11_findLeast 11 = .ok (.iload_n 1, 1) := by decide +kernel
theorem dX11_findLeast_12 : decode cX11_findLeast 12 = .ok (.invokevirtual 205, 3) := by decide +kernel
theorem dX11_findLeast_15 : decode cX11_findLeast 15 = .ok (.aload_n 0, 1) := by decide +kernel
theorem dX11_findLeast_16 : decode cX11_findLeast 16 = .ok (.iload_n 2, 1) := by decide +kernel
theorem dX11_findLeast_17 : decode cX11_findLeast 17 = .ok (.iconst 0, 1) := by decide +kernel
theorem dX11_findLeast_18 : decode cX11_findLeast 18 = .ok (.iconst 0, 1) := by decide +kernel
theorem dX11_findLeast_19 : decode cX11_findLeast 19 = .ok (.iconst 4, 1) := by decide +kernel
theorem dX11_findLeast_20 : decode cX11_findLeast 20 = .ok (.invokevirtual 209, 3) := by decide +kernel
theorem dX11_findLeast_23 : decode cX11_findLeast 23 = .ok (.iconst 0, 1) := by decide +kernel
theorem dX11_findLeast_24 : decode cX11_findLeast 24 = .ok (.istore_n 3, 1) := by decide +kernel
theorem dX11_findLeast_25 : decode cX11_findLeast 25 = .ok (.iconst 0, 1) := by decide +kernel
theorem dX11_findLeast_26 : decode cX11_findLeast 26 = .ok (.istore 4, 2) := by decide +kernel
theorem dX11_findLeast_28 : decode cX11_findLeast 28 = .ok (.iload 4, 2) := by decide +kernel
theorem dX11_findLeast_30 : decode cX11_findLeast 30 = .ok (.aload_n 0, 1) := by decide +kernel
theorem dX11_findLeast_31 : decode cX11_findLeast 31 = .ok (.getfield 190, 3) := by decide +kernel
theorem dX11_findLeast_34 : decode cX11_findLeast 34 = .ok (.if_icmp .ge 130, 3) := by decide +kernel
theorem dX11_findLeast_37 : decode cX11_findLeast 37 = .ok (.iconst (-1), 1) := by decide +kernel
theorem dX11_findLeast_38 : decode cX11_findLeast 38 = .ok (.istore 5, 2) := by decide +kernel
theorem dX11_findLeast_40 : decode cX11_findLeast 40 = .ok (.iconst 0, 1) := by decide +kernel
theorem dX11_findLeast_41 : decode cX11_findLeast 41 = .ok (.istore 6, 2) := by decide +kernel
theorem dX11_findLeast_43 : decode cX11_findLeast 43 = .ok (.iload 6, 2) := by decide +kernel
theorem dX11_findLeast_45 : decode cX11_findLeast 45 = .ok (.iload 4, 2) := by decide +kernel
theorem dX11_findLeast_47 : decode cX11_findLeast 47 = .ok (.if_icmp .ge 43, 3) := by decide +kernel
theorem dX11_findLeast_50 : decode cX11_findLeast 50 = .ok (.iload 5, 2) := by decide +kernel
theorem dX11_findLeast_52 : decode cX11_findLeast 52 = .ok (.ifCond .ge 38, 3) := by decide +kernel
theorem dX11_findLeast_55 : decode cX11_findLeast 55 = .ok (.aload_n 0, 1) := by decide +kernel
theorem dX11_findLeast_56 : decode cX11_findLeast 56 = .ok (.getfield 63, 3) := by decide +kernel
theorem dX11_findLeast_59 : decode cX11_findLeast 59 = .ok (.bipush 16, 2) := by decide +kernel
theorem dX11_findLeast_61 : decode cX11_findLeast 61 = .ok (.iload 4, 2) := by decide +kernel
theorem dX11_findLeast_63 : decode cX11_findLeast 63 = .ok (.imul, 1) := by decide +kernel
theorem dX11_findLeast_64 : decode cX11_findLeast 64 = .ok (.iload 6, 2) := by decide +kernel
theorem dX11_findLeast_66 : decode cX11_findLeast 66 = .ok (.iadd, 1) := by decide +kernel
theorem dX11_findLeast_67 : decode cX11_findLeast 67 = .ok (.baload, 1) := by decide +kernel
theorem dX11_findLeast_68 : decode cX11_findLeast 68 = .ok (.ifCond .eq 7, 3) := by decide +kernel
theorem dX11_findLeast_71 : decode cX11_findLeast 71 = .ok (.iconst (-1), 1) := by decide +kernel
theorem dX11_findLeast_72 : decode cX11_findLeast 72 = .ok (.goto 10, 3) := by decide +kernel
theorem dX11_findLeast_75 : decode cX11_findLeast 75 = .ok (.aload_n 0, 1) := by decide +kernel
theorem dX11_findLeast_76 : decode cX11_findLeast 76 = .ok (.getfield 66, 3) := by decide +kernel
theorem dX11_findLeast_79 : decode cX11_findLeast 79 = .ok (.iload 6, 2) := by decide +kernel
theorem dX11_findLeast_81 : decode cX11_findLeast 81 = .ok (.iaload, 1) := by decide +kernel
theorem dX11_findLeast_82 : decode cX11_findLeast 82 = .ok (.istore 5, 2) := by decide +kernel
theorem dX11_findLeast_84 : decode cX11_findLeast 84 = .ok (.iinc 6 1, 3) := by decide +kernel
theorem dX11_findLeast_87 : decode cX11_findLeast 87 = .ok (.goto (-44), 3) := by decide +kernel
theorem dX11_findLeast_90 : decode cX11_findLeast 90 = .ok (.iload 5, 2) := by decide +kernel
theorem dX11_findLeast_92 : decode cX11_findLeast 92 = .ok (.ifCond .ge 57, 3) := by decide +kernel
theorem dX11_findLeast_95 : decode cX11_findLeast 95 = .ok (.iload_n 3, 1) := by decide +kernel
theorem dX11_findLeast_96 : decode cX11_findLeast 96 = .ok (.istore 5, 2) := by decide +kernel
theorem dX11_findLeast_98 : decode cX11_findLeast 98 = .ok (.aload_n 0, 1) := by decide +kernel
theorem dX11_findLeast_99 : decode cX11_findLeast 99 = .ok (.getfield 39, 3) := by decide +kernel
theorem dX11_findLeast_102 : decode cX11_findLeast 102 = .ok (.bipush 14, 2) := by decide +kernel
theorem dX11_findLeast_104 : decode cX11_findLeast 104 = .ok (.iload_n 2, 1) := by decide +kernel
theorem dX11_findLeast_105 : decode cX11_findLeast 105 = .ok (.imul, 1) := by decide +kernel
theorem dX11_findLeast_106 : decode cX11_findLeast 106 = .ok (.iload 5, 2) := by decide +kernel
theorem dX11_findLeast_108 : decode cX11_findLeast 108 = .ok (.iadd, 1) := by decide +kernel
theorem dX11_findLeast_109 : decode cX11_findLeast 109 = .ok (.aload_n 0, 1) := by decide +kernel
theorem dX11_findLeast_110 : decode cX11_findLeast 110 = .ok (.getfield 39, 3) := by decide +kernel
theorem dX11_findLeast_113 : decode cX11_findLeast 113 = .ok (.bipush 14, 2) := by decide +kernel
theorem dX11_findLeast_115 : decode cX11_findLeast 115 = .ok (.iload_n 1, 1) := by decide +kernel
theorem dX11_findLeast_116 : decode cX11_findLeast 116 = .ok (.imul, 1) := by decide +kernel
theorem dX11_findLeast_117 : decode cX11_findLeast 117 = .ok (.aload_n 0, 1) := by decide +kernel
theorem dX11_findLeast_118 : decode cX11_findLeast 118 = .ok (.getfield 51, 3) := by decide +kernel
theorem dX11_findLeast_121 : decode cX11_findLeast 121 = .ok (.iload 4, 2) := by decide +kernel
theorem dX11_findLeast_123 : decode cX11_findLeast 123 = .ok (.iaload, 1) := by decide +kernel
theorem dX11_findLeast_124 : decode cX11_findLeast 124 = .ok (.iadd, 1) := by decide +kernel
theorem dX11_findLeast_125 : decode cX11_findLeast 125 = .ok (.iaload, 1) := by decide +kernel
theorem dX11_findLeast_126 : decode cX11_findLeast 126 = .ok (.iastore, 1) := by decide +kernel
theorem dX11_findLeast_127 : decode cX11_findLeast 127 = .ok (.aload_n 0, 1) := by decide +kernel
theorem dX11_findLeast_128 : decode cX11_findLeast 128 = .ok (.getfield 69, 3) := by decide +kernel
theorem dX11_findLeast_131 : decode cX11_findLeast 131 = .ok (.bipush 14, 2) := by decide +kernel
theorem dX11_findLeast_133 : decode cX11_findLeast 133 = .ok (.iload_n 2, 1) := by decide +kernel
theorem dX11_findLeast_134 : decode cX11_findLeast 134 = .ok (.imul, 1) := by decide +kernel
theorem dX11_findLeast_135 : decode cX11_findLeast 135 = .ok (.iload 5, 2) := by decide +kernel
theorem dX11_findLeast_137 : decode cX11_findLeast 137 = .ok (.iadd, 1) := by decide +kernel
theorem dX11_findLeast_138 : decode cX11_findLeast 138 = .ok (.aload_n 0, 1) := by decide +kernel
theorem dX11_findLeast_139 : decode cX11_findLeast 139 = .ok (.getfield 57, 3) := by decide +kernel
theorem dX11_findLeast_142 : decode cX11_findLeast 142 = .ok (.iload 4, 2) := by decide +kernel
theorem dX11_findLeast_144 : decode cX11_findLeast 144 = .ok (.laload, 1) := by decide +kernel
theorem dX11_findLeast_145 : decode cX11_findLeast 145 = .ok (.lastore, 1) := by decide +kernel
theorem dX11_findLeast_146 : decode cX11_findLeast 146 = .ok (.iinc 3 1, 3) := by decide +kernel
theorem dX11_findLeast_149 : decode cX11_findLeast 149 = .ok (.aload_n 0, 1) := by decide +kernel
theorem dX11_findLeast_150 : decode cX11_findLeast 150 = .ok (.getfield 66, 3) := by decide +kernel
theorem dX11_findLeast_153 : decode cX11_findLeast 153 = .ok (.iload 4, 2) := by decide +kernel
theorem dX11_findLeast_155 : decode cX11_findLeast 155 = .ok (.iload 5, 2) := by decide +kernel
theorem dX11_findLeast_157 : decode cX11_findLeast 157 = .ok (.iastore, 1) := by decide +kernel
theorem dX11_findLeast_158 : decode cX11_findLeast 158 = .ok (.iinc 4 1, 3) := by decide +kernel
theorem dX11_findLeast_161 : decode cX11_findLeast 161 = .ok (.goto (-133), 3) := by decide +kernel
theorem dX11_findLeast_164 : decode cX11_findLeast 164 = .ok (.aload_n 0, 1) := by decide +kernel
theorem dX11_findLeast_165 : decode cX11_findLeast 165 = .ok (.getfield 33, 3) := by decide +kernel
theorem dX11_findLeast_168 : decode cX11_findLeast 168 = .ok (.iload_n 2, 1) := by decide +kernel
theorem dX11_findLeast_169 : decode cX11_findLeast 169 = .ok (.iload_n 3, 1) := by decide +kernel
theorem dX11_findLeast_170 : decode cX11_findLeast 170 = .ok (.iastore, 1) := by decide +kernel
theorem dX11_findLeast_171 : decode cX11_findLeast 171 = .ok (.iconst 0, 1) := by decide +kernel
theorem dX11_findLeast_172 : decode cX11_findLeast 172 = .ok (.istore 4, 2) := by decide +kernel
theorem dX11_findLeast_174 : decode cX11_findLeast 174 = .ok (.iload 4, 2) := by decide +kernel
theorem dX11_findLeast_176 : decode cX11_findLeast 176 = .ok (.aload_n 0, 1) := by decide +kernel
theorem dX11_findLeast_177 : decode cX11_findLeast 177 = .ok (.getfield 190, 3) := by decide +kernel
theorem dX11_findLeast_180 : decode cX11_findLeast 180 = .ok (.if_icmp .ge 72, 3) := by decide +kernel
theorem dX11_findLeast_183 : decode cX11_findLeast 183 = .ok (.iconst 0, 1) := by decide +kernel
theorem dX11_findLeast_184 : decode cX11_findLeast 184 = .ok (.istore 5, 2) := by decide +kernel
theorem dX11_findLeast_186 : decode cX11_findLeast 186 = .ok (.iload 5, 2) := by decide +kernel
theorem dX11_findLeast_188 : decode cX11_findLeast 188 = .ok (.iconst 4, 1) := by decide +kernel
theorem dX11_findLeast_189 : decode cX11_findLeast 189 = .ok (.if_icmp .ge 57, 3) := by decide +kernel
theorem dX11_findLeast_192 : decode cX11_findLeast 192 = .ok (.aload_n 0, 1) := by decide +kernel
theorem dX11_findLeast_193 : decode cX11_findLeast 193 = .ok (.getfield 60, 3) := by decide +kernel
theorem dX11_findLeast_196 : decode cX11_findLeast 196 = .ok (.iconst 4, 1) := by decide +kernel
theorem dX11_findLeast_197 : decode cX11_findLeast 197 = .ok (.iload 4, 2) := by decide +kernel
theorem dX11_findLeast_199 : decode cX11_findLeast 199 = .ok (.imul, 1) := by decide +kernel
theorem dX11_findLeast_200 : decode cX11_findLeast 200 = .ok (.iload 5, 2) := by decide +kernel
theorem dX11_findLeast_202 : decode cX11_findLeast 202 = .ok (.iadd, 1) := by decide +kernel
theorem dX11_findLeast_203 : decode cX11_findLeast 203 = .ok (.iaload, 1) := by decide +kernel
theorem dX11_findLeast_204 : decode cX11_findLeast 204 = .ok (.istore 6, 2) := by decide +kernel
theorem dX11_findLeast_206 : decode cX11_findLeast 206 = .ok (.aload_n 0, 1) := by decide +kernel
theorem dX11_findLeast_207 : decode cX11_findLeast 207 = .ok (.getfield 45, 3) := by decide +kernel
theorem dX11_findLeast_210 : decode cX11_findLeast 210 = .ok (.iload_n 2, 1) := by decide +kernel
theorem dX11_findLeast_211 : decode cX11_findLeast 211 = .ok (.aload_n 0, 1) := by decide +kernel
theorem dX11_findLeast_212 : decode cX11_findLeast 212 = .ok (.getfield 66, 3) := by decide +kernel
theorem dX11_findLeast_215 : decode cX11_findLeast 215 = .ok (.iload 4, 2) := by decide +kernel
theorem dX11_findLeast_217 : decode cX11_findLeast 217 = .ok (.iaload, 1) := by decide +kernel
theorem dX11_findLeast_218 : decode cX11_findLeast 218 = .ok (.iload 5, 2) := by decide +kernel
theorem dX11_findLeast_220 : decode cX11_findLeast 220 = .ok (.invokestatic 149, 3) := by decide +kernel
theorem dX11_findLeast_223 : decode cX11_findLeast 223 = .ok (.iload 6, 2) := by decide +kernel
theorem dX11_findLeast_225 : decode cX11_findLeast 225 = .ok (.ifCond .ge 7, 3) := by decide +kernel
theorem dX11_findLeast_228 : decode cX11_findLeast 228 = .ok (.iconst (-1), 1) := by decide +kernel
theorem dX11_findLeast_229 : decode cX11_findLeast 229 = .ok (.goto 10, 3) := by decide +kernel
theorem dX11_findLeast_232 : decode cX11_findLeast 232 = .ok (.aload_n 0, 1) := by decide +kernel
theorem dX11_findLeast_233 : decode cX11_findLeast 233 = .ok (.getfield 66, 3) := by decide +kernel
theorem dX11_findLeast_236 : decode cX11_findLeast 236 = .ok (.iload 6, 2) := by decide +kernel
theorem dX11_findLeast_238 : decode cX11_findLeast 238 = .ok (.iaload, 1) := by decide +kernel
theorem dX11_findLeast_239 : decode cX11_findLeast 239 = .ok (.iastore, 1) := by decide +kernel
theorem dX11_findLeast_240 : decode cX11_findLeast 240 = .ok (.iinc 5 1, 3) := by decide +kernel
theorem dX11_findLeast_243 : decode cX11_findLeast 243 = .ok (.goto (-57), 3) := by decide +kernel
theorem dX11_findLeast_246 : decode cX11_findLeast 246 = .ok (.iinc 4 1, 3) := by decide +kernel
theorem dX11_findLeast_249 : decode cX11_findLeast 249 = .ok (.goto (-75), 3) := by decide +kernel
theorem dX11_findLeast_252 : decode cX11_findLeast 252 = .ok (.aload_n 0, 1) := by decide +kernel
theorem dX11_findLeast_253 : decode cX11_findLeast 253 = .ok (.iload_n 2, 1) := by decide +kernel
theorem dX11_findLeast_254 : decode cX11_findLeast 254 = .ok (.invokevirtual 213, 3) := by decide +kernel
theorem dX11_findLeast_257 : decode cX11_findLeast 257 = .ok (.iconst 1, 1) := by decide +kernel
theorem dX11_findLeast_258 : decode cX11_findLeast 258 = .ok (.ireturn, 1) := by decide +kernel
def f_Model_findLeast_b239 (x5 : Int32) (s1 : Int32) (s2 : Int32) (kh : Int32 → MI → MJ → Prop) (I : MI) (J : MJ) : Prop :=
  vp_in s1 1120 ∧ ∀ I239 : MI, I239 = sI I 189 (upd (I 189) s1.toNatClampNeg s2) → ∀ t240 : Int32, t240 = x5 + 1 → kh t240 I239 J
def f_Model_findLeast_L186 (x2 : Int32) (x4 : Int32) (k246 : MI → MJ → Prop) : Nat → Int32 → MI → MJ → Prop
  | 0, _, _, _ => False
  | nf186 + 1, x5, I, J =>
  (if 4 ≤ x5 then k246 I J else vp_in ((4 * x4) + x5) 228 ∧ ∀ t204 : Int32, t204 = I 194 ((4 * x4) + x5).toNatClampNeg → vp_in x4 16 ∧ f_Model_spot x2 (I 196 x4.toNatClampNeg) x5 I J (fun r220 I220 J220 => (if 0 ≤ t204 then vp_in t204 16 ∧ f_Model_findLeast_b239 x5 r220 (I220 196 t204.toNatClampNeg) (f_Model_findLeast_L186 x2 x4 k246 nf186) I220 J220 else f_Model_findLeast_b239 x5 r220 (-1) (f_Model_findLeast_L186 x2 x4 k246 nf186) I220 J220)))
def f_Model_findLeast_L174 (x2 : Int32) (k252 : MI → MJ → Prop) : Nat → Int32 → MI → MJ → Prop
  | 0, _, _, _ => False
  | nf174 + 1, x4, I, J =>
  (if (I 177 16) ≤ x4 then k252 I J else ∃ n, f_Model_findLeast_L186 x2 x4 (fun (I : MI) (J : MJ) => ∀ t246 : Int32, t246 = x4 + 1 → f_Model_findLeast_L174 x2 k252 nf174 t246 I J) n 0 I J)
def f_Model_findLeast_b149 (x3 : Int32) (x4 : Int32) (x5 : Int32) (kh : Int32 → Int32 → MI → MJ → Prop) (I : MI) (J : MJ) : Prop :=
  vp_in x4 16 ∧ ∀ I157 : MI, I157 = sI I 196 (upd (I 196) x4.toNatClampNeg x5) → ∀ t158 : Int32, t158 = x4 + 1 → kh x3 t158 I157 J
def f_Model_findLeast_b90 (x1 : Int32) (x2 : Int32) (x3 : Int32) (x4 : Int32) (x5 : Int32) (kh : Int32 → Int32 → MI → MJ → Prop) (I : MI) (J : MJ) : Prop :=
  (if 0 ≤ x5 then f_Model_findLeast_b149 x3 x4 x5 kh I J else vp_in x4 57 ∧ vp_in ((14 * x1) + (I 191 x4.toNatClampNeg)) 280 ∧ vp_in ((14 * x2) + x3) 280 ∧ ∀ I126 : MI, I126 = sI I 187 (upd (I 187) ((14 * x2) + x3).toNatClampNeg (I 187 ((14 * x1) + (I 191 x4.toNatClampNeg)).toNatClampNeg)) → vp_in x4 57 ∧ vp_in ((14 * x2) + x3) 280 ∧ ∀ J145 : MJ, J145 = sJ J 197 (vp_updL (J 197) ((14 * x2) + x3).toNatClampNeg (J 193 x4.toNatClampNeg)) → ∀ t146 : Int32, t146 = x3 + 1 → f_Model_findLeast_b149 t146 x4 x3 kh I126 J145)
def f_Model_findLeast_b82 (x6 : Int32) (s0 : Int32) (kh : Int32 → Int32 → MI → MJ → Prop) (I : MI) (J : MJ) : Prop :=
  ∀ t84 : Int32, t84 = x6 + 1 → kh s0 t84 I J
def f_Model_findLeast_L43 (x4 : Int32) (k90 : Int32 → MI → MJ → Prop) : Nat → Int32 → Int32 → MI → MJ → Prop
  | 0, _, _, _, _ => False
  | nf43 + 1, x5, x6, I, J =>
  (if x4 ≤ x6 then k90 x5 I J else (if 0 ≤ x5 then k90 x5 I J else vp_in ((16 * x4) + x6) 256 ∧ (if (I 195 ((16 * x4) + x6).toNatClampNeg) = 0 then vp_in x6 16 ∧ f_Model_findLeast_b82 x6 (I 196 x6.toNatClampNeg) (f_Model_findLeast_L43 x4 k90 nf43) I J else f_Model_findLeast_b82 x6 (-1) (f_Model_findLeast_L43 x4 k90 nf43) I J)))
def f_Model_findLeast_L28 (x1 : Int32) (x2 : Int32) (k164 : Int32 → MI → MJ → Prop) : Nat → Int32 → Int32 → MI → MJ → Prop
  | 0, _, _, _, _ => False
  | nf28 + 1, x3, x4, I, J =>
  (if (I 177 16) ≤ x4 then k164 x3 I J else ∃ n, f_Model_findLeast_L43 x4 (fun (z90_x5 : Int32) (I : MI) (J : MJ) => f_Model_findLeast_b90 x1 x2 x3 x4 z90_x5 (f_Model_findLeast_L28 x1 x2 k164 nf28) I J) n (-1) 0 I J)
def f_Model_findLeast (x1 : Int32) (x2 : Int32) (I : MI) (J : MJ) (Q : Int32 → MI → MJ → Prop) : Prop :=
  f_Model_findPairs x1 I J (fun r2 I2 J2 => (if r2 = 0 then Q 0 I2 J2 else f_Model_findUnlike x1 I2 J2 (fun I12 J12 => f_Model_clear x2 (0 : Int32) (0 : Int32) (4 : Int32) I12 J12 (fun I20 J20 => ∃ n, f_Model_findLeast_L28 x1 x2 (fun (z164_x3 : Int32) (I : MI) (J : MJ) => vp_in x2 20 ∧ ∀ I170 : MI, I170 = sI I 185 (upd (I 185) x2.toNatClampNeg z164_x3) → ∃ n, f_Model_findLeast_L174 x2 (fun (I : MI) (J : MJ) => f_Model_trim x2 I J (fun I254 J254 => Q 1 I254 J254)) n 0 I170 J) n 0 0 I20 J20))))
set_option maxRecDepth 100000 in
set_option maxHeartbeats 4000000 in
theorem w_Model_findLeast_b239 {Γ : Ctx} {Q : Int32 → MI → MJ → Prop} {x2 : Int32} {x4 : Int32} {x5 : Int32} {s1 : Int32} {s2 : Int32} {kh : Int32 → MI → MJ → Prop} (X : Cx Γ cX11_findLeast 7 RX11 3) (Y : Rt Γ (Pi Q) (Option.some Jvm.ClassFile.FieldType.boolean))  (hkh : ∀ (x5 : Int32) (I : MI) (J : MJ), kh x5 I J → Wp Γ 7 186 [(0, .ref (ad Γ 177)), (2, .int x2), (4, .int x4), (5, .int x5)] [] I J) {I : MI} {J : MJ} (h : f_Model_findLeast_b239 x5 s1 s2 kh I J) : Wp Γ 7 239 [(0, .ref (ad Γ 177)), (2, .int x2), (4, .int x4), (5, .int x5)] [.int s2, .int s1, .ref (ad Γ 189)] I J := by
  unfold f_Model_findLeast_b239 at h
  obtain ⟨hb239, h⟩ := h
  refine wp_iast X sh_189 hb239 dX11_findLeast_239 ?_
  refine wp_memI (fun I239 eI239 => ?_)
  have h := h I239 eI239
  obtain ⟨t240, et240⟩ : ∃ y : Int32, y = x5 + 1 := ⟨_, rfl⟩
  have h := h t240 et240
  refine wp_iinc (L' := [(5, .int t240), (0, .ref (ad Γ 177)), (2, .int x2), (4, .int x4)]) X dX11_findLeast_240 3 rfl (ii_1 et240) (by decide) rfl ?_
  refine wp_goto (tgt := 186) X dX11_findLeast_243 (by decide) ?_
  refine wp_sub X [1, 2, 3, 0] rfl ?_
  exact hkh _ _ _ h

set_option maxRecDepth 100000 in
set_option maxHeartbeats 4000000 in
theorem w_Model_findLeast_L186 {Γ : Ctx} {Q : Int32 → MI → MJ → Prop} {x2 : Int32} {x4 : Int32} {k246 : MI → MJ → Prop} (X : Cx Γ cX11_findLeast 7 RX11 3) (Y : Rt Γ (Pi Q) (Option.some Jvm.ClassFile.FieldType.boolean))  (hk246 : ∀ (I : MI) (J : MJ), k246 I J → Wp Γ 7 246 [(0, .ref (ad Γ 177)), (2, .int x2), (4, .int x4)] [] I J) : ∀ (n : Nat) (x5 : Int32) (I : MI) (J : MJ), f_Model_findLeast_L186 x2 x4 k246 n x5 I J → Wp Γ 7 186 [(0, .ref (ad Γ 177)), (2, .int x2), (4, .int x4), (5, .int x5)] [] I J := by
  intro n
  induction n with
  | zero => intro x5 I J h; exact absurd h (by simp [f_Model_findLeast_L186])
  | succ n ih =>
  intro x5 I J h
  unfold f_Model_findLeast_L186 at h
  refine wp_iload X dX11_findLeast_186 3 rfl ?_
  refine wp_iconst X dX11_findLeast_188 ic_4 ?_
  refine wp_icmp_ge (tgt := 246) X dX11_findLeast_189 (by decide) (fun hc => ?_) (fun hc => ?_)
  · have h := ite_t h hc
    refine wp_sub X [0, 1, 2] rfl ?_
    exact hk246 _ _ h
  · have h := ite_f h hc
    refine wp_aload_n X dX11_findLeast_192 0 rfl ?_
    refine gf_X11_60 (o' := 194) X sh_177 rfl dX11_findLeast_193 ?_
    refine wp_iconst X dX11_findLeast_196 ic_4 ?_
    refine wp_iload X dX11_findLeast_197 2 rfl ?_
    refine wp_imul X dX11_findLeast_199 ?_
    refine wp_iload X dX11_findLeast_200 3 rfl ?_
    refine wp_iadd X dX11_findLeast_202 ?_
    obtain ⟨hb203, h⟩ := h
    refine wp_iald X sh_194 hb203 dX11_findLeast_203 ?_
    refine wp_topi (fun t204 et204 => ?_)
    have h := h t204 et204
    refine wp_istore (L' := [(6, .int t204), (0, .ref (ad Γ 177)), (2, .int x2), (4, .int x4), (5, .int x5)]) X dX11_findLeast_204 (by decide) rfl ?_
    refine wp_aload_n X dX11_findLeast_206 1 rfl ?_
    refine gf_X11_45 (o' := 189) X sh_177 rfl dX11_findLeast_207 ?_
    refine wp_iload_n X dX11_findLeast_210 2 rfl ?_
    refine wp_aload_n X dX11_findLeast_211 1 rfl ?_
    refine gf_X11_66 (o' := 196) X sh_177 rfl dX11_findLeast_212 ?_
    refine wp_iload X dX11_findLeast_215 3 rfl ?_
    obtain ⟨hb217, h⟩ := h
    refine wp_iald X sh_196 hb217 dX11_findLeast_217 ?_
    refine wp_iload X dX11_findLeast_218 4 rfl ?_
    refine cs_Model_spot X dX11_findLeast_220 ml_X11_149  h (Nat.le_of_ble_eq_true rfl) (by decide) (fun r220 I220 J220 h => ?_)
    refine wp_iload X dX11_findLeast_223 0 rfl ?_
    refine wp_if_ge (tgt := 232) X dX11_findLeast_225 (by decide) (fun hc => ?_) (fun hc => ?_)
    · have h := ite_t h hc
      refine wp_aload_n X dX11_findLeast_232 1 rfl ?_
      refine gf_X11_66 (o' := 196) X sh_177 rfl dX11_findLeast_233 ?_
      refine wp_iload X dX11_findLeast_236 0 rfl ?_
      obtain ⟨hb238, h⟩ := h
      refine wp_iald X sh_196 hb238 dX11_findLeast_238 ?_
      refine wp_sub X [1, 2, 3, 4] rfl ?_
      exact w_Model_findLeast_b239 X Y ih h
    · have h := ite_f h hc
      refine wp_iconst X dX11_findLeast_228 ic_m1 ?_
      refine wp_goto (tgt := 239) X dX11_findLeast_229 (by decide) ?_
      refine wp_sub X [1, 2, 3, 4] rfl ?_
      exact w_Model_findLeast_b239 X Y ih h

set_option maxRecDepth 100000 in
set_option maxHeartbeats 4000000 in
theorem w_Model_findLeast_L174 {Γ : Ctx} {Q : Int32 → MI → MJ → Prop} {x2 : Int32} {k252 : MI → MJ → Prop} (X : Cx Γ cX11_findLeast 7 RX11 3) (Y : Rt Γ (Pi Q) (Option.some Jvm.ClassFile.FieldType.boolean))  (hk252 : ∀ (I : MI) (J : MJ), k252 I J → Wp Γ 7 252 [(0, .ref (ad Γ 177)), (2, .int x2)] [] I J) : ∀ (n : Nat) (x4 : Int32) (I : MI) (J : MJ), f_Model_findLeast_L174 x2 k252 n x4 I J → Wp Γ 7 174 [(0, .ref (ad Γ 177)), (2, .int x2), (4, .int x4)] [] I J := by
  intro n
  induction n with
  | zero => intro x4 I J h; exact absurd h (by simp [f_Model_findLeast_L174])
  | succ n ih =>
  intro x4 I J h
  unfold f_Model_findLeast_L174 at h
  refine wp_iload X dX11_findLeast_174 2 rfl ?_
  refine wp_aload_n X dX11_findLeast_176 0 rfl ?_
  refine gf_X11_190 X sh_177 dX11_findLeast_177 ?_
  refine wp_icmp_ge (tgt := 252) X dX11_findLeast_180 (by decide) (fun hc => ?_) (fun hc => ?_)
  · have h := ite_t h hc
    refine wp_sub X [0, 1] rfl ?_
    exact hk252 _ _ h
  · have h := ite_f h hc
    refine wp_iconst X dX11_findLeast_183 ic_0 ?_
    refine wp_istore (L' := [(5, .int 0), (0, .ref (ad Γ 177)), (2, .int x2), (4, .int x4)]) X dX11_findLeast_184 (by decide) rfl ?_
    obtain ⟨n, h⟩ := h
    refine wp_sub X [1, 2, 3, 0] rfl ?_
    refine w_Model_findLeast_L186 X Y  ?_ n _ _ _ h
    · intro I J h
      obtain ⟨t246, et246⟩ : ∃ y : Int32, y = x4 + 1 := ⟨_, rfl⟩
      have h := h t246 et246
      refine wp_iinc (L' := [(4, .int t246), (0, .ref (ad Γ 177)), (2, .int x2)]) X dX11_findLeast_246 2 rfl (ii_1 et246) (by decide) rfl ?_
      refine wp_goto (tgt := 174) X dX11_findLeast_249 (by decide) ?_
      refine wp_sub X [1, 2, 0] rfl ?_
      exact ih _ _ _ h

set_option maxRecDepth 100000 in
set_option maxHeartbeats 4000000 in
theorem w_Model_findLeast_b149 {Γ : Ctx} {Q : Int32 → MI → MJ → Prop} {x1 : Int32} {x2 : Int32} {x3 : Int32} {x4 : Int32} {x5 : Int32} {kh : Int32 → Int32 → MI → MJ → Prop} (X : Cx Γ cX11_findLeast 7 RX11 3) (Y : Rt Γ (Pi Q) (Option.some Jvm.ClassFile.FieldType.boolean))  (hkh : ∀ (x3 : Int32) (x4 : Int32) (I : MI) (J : MJ), kh x3 x4 I J → Wp Γ 7 28 [(0, .ref (ad Γ 177)), (1, .int x1), (2, .int x2), (3, .int x3), (4, .int x4)] [] I J) {I : MI} {J : MJ} (h : f_Model_findLeast_b149 x3 x4 x5 kh I J) : Wp Γ 7 149 [(0, .ref (ad Γ 177)), (1, .int x1), (2, .int x2), (3, .int x3), (4, .int x4), (5, .int x5)] [] I J := by
  unfold f_Model_findLeast_b149 at h
  refine wp_aload_n X dX11_findLeast_149 0 rfl ?_
  refine gf_X11_66 (o' := 196) X sh_177 rfl dX11_findLeast_150 ?_
  refine wp_iload X dX11_findLeast_153 4 rfl ?_
  refine wp_iload X dX11_findLeast_155 5 rfl ?_
  obtain ⟨hb157, h⟩ := h
  refine wp_iast X sh_196 hb157 dX11_findLeast_157 ?_
  refine wp_memI (fun I157 eI157 => ?_)
  have h := h I157 eI157
  obtain ⟨t158, et158⟩ : ∃ y : Int32, y = x4 + 1 := ⟨_, rfl⟩
  have h := h t158 et158
  refine wp_iinc (L' := [(4, .int t158), (0, .ref (ad Γ 177)), (1, .int x1), (2, .int x2), (3, .int x3), (5, .int x5)]) X dX11_findLeast_158 4 rfl (ii_1 et158) (by decide) rfl ?_
  refine wp_goto (tgt := 28) X dX11_findLeast_161 (by decide) ?_
  refine wp_sub X [1, 2, 3, 4, 0] rfl ?_
  exact hkh _ _ _ _ h

set_option maxRecDepth 100000 in
set_option maxHeartbeats 4000000 in
theorem w_Model_findLeast_b90 {Γ : Ctx} {Q : Int32 → MI → MJ → Prop} {x1 : Int32} {x2 : Int32} {x3 : Int32} {x4 : Int32} {x5 : Int32} {kh : Int32 → Int32 → MI → MJ → Prop} (X : Cx Γ cX11_findLeast 7 RX11 3) (Y : Rt Γ (Pi Q) (Option.some Jvm.ClassFile.FieldType.boolean))  (hkh : ∀ (x3 : Int32) (x4 : Int32) (I : MI) (J : MJ), kh x3 x4 I J → Wp Γ 7 28 [(0, .ref (ad Γ 177)), (1, .int x1), (2, .int x2), (3, .int x3), (4, .int x4)] [] I J) {I : MI} {J : MJ} (h : f_Model_findLeast_b90 x1 x2 x3 x4 x5 kh I J) : Wp Γ 7 90 [(0, .ref (ad Γ 177)), (1, .int x1), (2, .int x2), (3, .int x3), (4, .int x4), (5, .int x5)] [] I J := by
  unfold f_Model_findLeast_b90 at h
  refine wp_iload X dX11_findLeast_90 5 rfl ?_
  refine wp_if_ge (tgt := 149) X dX11_findLeast_92 (by decide) (fun hc => ?_) (fun hc => ?_)
  · have h := ite_t h hc
    exact w_Model_findLeast_b149 X Y hkh h
  · have h := ite_f h hc
    refine wp_iload_n X dX11_findLeast_95 3 rfl ?_
    refine wp_istore (L' := [(5, .int x3), (0, .ref (ad Γ 177)), (1, .int x1), (2, .int x2), (3, .int x3), (4, .int x4)]) X dX11_findLeast_96 (by decide) rfl ?_
    refine wp_aload_n X dX11_findLeast_98 1 rfl ?_
    refine gf_X11_39 (o' := 187) X sh_177 rfl dX11_findLeast_99 ?_
    refine wp_bipush X dX11_findLeast_102 bi_14 ?_
    refine wp_iload_n X dX11_findLeast_104 3 rfl ?_
    refine wp_imul X dX11_findLeast_105 ?_
    refine wp_iload X dX11_findLeast_106 0 rfl ?_
    refine wp_iadd X dX11_findLeast_108 ?_
    refine wp_aload_n X dX11_findLeast_109 1 rfl ?_
    refine gf_X11_39 (o' := 187) X sh_177 rfl dX11_findLeast_110 ?_
    refine wp_bipush X dX11_findLeast_113 bi_14 ?_
    refine wp_iload_n X dX11_findLeast_115 2 rfl ?_
    refine wp_imul X dX11_findLeast_116 ?_
    refine wp_aload_n X dX11_findLeast_117 1 rfl ?_
    refine gf_X11_51 (o' := 191) X sh_177 rfl dX11_findLeast_118 ?_
    refine wp_iload X dX11_findLeast_121 5 rfl ?_
    obtain ⟨hb123, h⟩ := h
    refine wp_iald X sh_191 hb123 dX11_findLeast_123 ?_
    refine wp_iadd X dX11_findLeast_124 ?_
    obtain ⟨hb125, h⟩ := h
    refine wp_iald X sh_187 hb125 dX11_findLeast_125 ?_
    obtain ⟨hb126, h⟩ := h
    refine wp_iast X sh_187 hb126 dX11_findLeast_126 ?_
    refine wp_memI (fun I126 eI126 => ?_)
    have h := h I126 eI126
    refine wp_aload_n X dX11_findLeast_127 1 rfl ?_
    refine gf_X11_69 (o' := 197) X sh_177 rfl dX11_findLeast_128 ?_
    refine wp_bipush X dX11_findLeast_131 bi_14 ?_
    refine wp_iload_n X dX11_findLeast_133 3 rfl ?_
    refine wp_imul X dX11_findLeast_134 ?_
    refine wp_iload X dX11_findLeast_135 0 rfl ?_
    refine wp_iadd X dX11_findLeast_137 ?_
    refine wp_aload_n X dX11_findLeast_138 1 rfl ?_
    refine gf_X11_57 (o' := 193) X sh_177 rfl dX11_findLeast_139 ?_
    refine wp_iload X dX11_findLeast_142 5 rfl ?_
    obtain ⟨hb144, h⟩ := h
    refine wp_lald X sh_193 hb144 dX11_findLeast_144 ?_
    obtain ⟨hb145, h⟩ := h
    refine wp_last X sh_197 hb145 dX11_findLeast_145 ?_
    refine wp_memJ (fun J145 eJ145 => ?_)
    have h := h J145 eJ145
    obtain ⟨t146, et146⟩ : ∃ y : Int32, y = x3 + 1 := ⟨_, rfl⟩
    have h := h t146 et146
    refine wp_iinc (L' := [(3, .int t146), (5, .int x3), (0, .ref (ad Γ 177)), (1, .int x1), (2, .int x2), (4, .int x4)]) X dX11_findLeast_146 4 rfl (ii_1 et146) (by decide) rfl ?_
    refine wp_sub X [2, 3, 4, 0, 5, 1] rfl ?_
    exact w_Model_findLeast_b149 X Y hkh h

set_option maxRecDepth 100000 in
set_option maxHeartbeats 4000000 in
theorem w_Model_findLeast_b82 {Γ : Ctx} {Q : Int32 → MI → MJ → Prop} {x1 : Int32} {x2 : Int32} {x3 : Int32} {x4 : Int32} {x6 : Int32} {s0 : Int32} {kh : Int32 → Int32 → MI → MJ → Prop} (X : Cx Γ cX11_findLeast 7 RX11 3) (Y : Rt Γ (Pi Q) (Option.some Jvm.ClassFile.FieldType.boolean))  (hkh : ∀ (x5 : Int32) (x6 : Int32) (I : MI) (J : MJ), kh x5 x6 I J → Wp Γ 7 43 [(0, .ref (ad Γ 177)), (1, .int x1), (2, .int x2), (3, .int x3), (4, .int x4), (5, .int x5), (6, .int x6)] [] I J) {I : MI} {J : MJ} (h : f_Model_findLeast_b82 x6 s0 kh I J) : Wp Γ 7 82 [(0, .ref (ad Γ 177)), (1, .int x1), (2, .int x2), (3, .int x3), (4, .int x4), (6, .int x6)] [.int s0] I J := by
  unfold f_Model_findLeast_b82 at h
  refine wp_istore (L' := [(5, .int s0), (0, .ref (ad Γ 177)), (1, .int x1), (2, .int x2), (3, .int x3), (4, .int x4), (6, .int x6)]) X dX11_findLeast_82 (by decide) rfl ?_
  obtain ⟨t84, et84⟩ : ∃ y : Int32, y = x6 + 1 := ⟨_, rfl⟩
  have h := h t84 et84
  refine wp_iinc (L' := [(6, .int t84), (5, .int s0), (0, .ref (ad Γ 177)), (1, .int x1), (2, .int x2), (3, .int x3), (4, .int x4)]) X dX11_findLeast_84 6 rfl (ii_1 et84) (by decide) rfl ?_
  refine wp_goto (tgt := 43) X dX11_findLeast_87 (by decide) ?_
  refine wp_sub X [2, 3, 4, 5, 6, 1, 0] rfl ?_
  exact hkh _ _ _ _ h

set_option maxRecDepth 100000 in
set_option maxHeartbeats 4000000 in
theorem w_Model_findLeast_L43 {Γ : Ctx} {Q : Int32 → MI → MJ → Prop} {x1 : Int32} {x2 : Int32} {x3 : Int32} {x4 : Int32} {k90 : Int32 → MI → MJ → Prop} (X : Cx Γ cX11_findLeast 7 RX11 3) (Y : Rt Γ (Pi Q) (Option.some Jvm.ClassFile.FieldType.boolean))  (hk90 : ∀ (x5 : Int32) (I : MI) (J : MJ), k90 x5 I J → Wp Γ 7 90 [(0, .ref (ad Γ 177)), (1, .int x1), (2, .int x2), (3, .int x3), (4, .int x4), (5, .int x5)] [] I J) : ∀ (n : Nat) (x5 : Int32) (x6 : Int32) (I : MI) (J : MJ), f_Model_findLeast_L43 x4 k90 n x5 x6 I J → Wp Γ 7 43 [(0, .ref (ad Γ 177)), (1, .int x1), (2, .int x2), (3, .int x3), (4, .int x4), (5, .int x5), (6, .int x6)] [] I J := by
  intro n
  induction n with
  | zero => intro x5 x6 I J h; exact absurd h (by simp [f_Model_findLeast_L43])
  | succ n ih =>
  intro x5 x6 I J h
  unfold f_Model_findLeast_L43 at h
  refine wp_iload X dX11_findLeast_43 6 rfl ?_
  refine wp_iload X dX11_findLeast_45 4 rfl ?_
  refine wp_icmp_ge (tgt := 90) X dX11_findLeast_47 (by decide) (fun hc => ?_) (fun hc => ?_)
  · have h := ite_t h hc
    refine wp_sub X [0, 1, 2, 3, 4, 5] rfl ?_
    exact hk90 _ _ _ h
  · have h := ite_f h hc
    refine wp_iload X dX11_findLeast_50 5 rfl ?_
    refine wp_if_ge (tgt := 90) X dX11_findLeast_52 (by decide) (fun hc => ?_) (fun hc => ?_)
    · have h := ite_t h hc
      refine wp_sub X [0, 1, 2, 3, 4, 5] rfl ?_
      exact hk90 _ _ _ h
    · have h := ite_f h hc
      refine wp_aload_n X dX11_findLeast_55 0 rfl ?_
      refine gf_X11_63 (o' := 195) X sh_177 rfl dX11_findLeast_56 ?_
      refine wp_bipush X dX11_findLeast_59 bi_16 ?_
      refine wp_iload X dX11_findLeast_61 4 rfl ?_
      refine wp_imul X dX11_findLeast_63 ?_
      refine wp_iload X dX11_findLeast_64 6 rfl ?_
      refine wp_iadd X dX11_findLeast_66 ?_
      obtain ⟨hb67, h⟩ := h
      refine wp_zald X sh_195 hb67 dX11_findLeast_67 ?_
      refine wp_if_eq (tgt := 75) X dX11_findLeast_68 (by decide) (fun hc => ?_) (fun hc => ?_)
      · have h := ite_t h hc
        refine wp_aload_n X dX11_findLeast_75 0 rfl ?_
        refine gf_X11_66 (o' := 196) X sh_177 rfl dX11_findLeast_76 ?_
        refine wp_iload X dX11_findLeast_79 6 rfl ?_
        obtain ⟨hb81, h⟩ := h
        refine wp_iald X sh_196 hb81 dX11_findLeast_81 ?_
        refine wp_sub X [0, 1, 2, 3, 4, 6] rfl ?_
        exact w_Model_findLeast_b82 X Y ih h
      · have h := ite_f h hc
        refine wp_iconst X dX11_findLeast_71 ic_m1 ?_
        refine wp_goto (tgt := 82) X dX11_findLeast_72 (by decide) ?_
        refine wp_sub X [0, 1, 2, 3, 4, 6] rfl ?_
        exact w_Model_findLeast_b82 X Y ih h

set_option maxRecDepth 100000 in
set_option maxHeartbeats 4000000 in
theorem w_Model_findLeast_L28 {Γ : Ctx} {Q : Int32 → MI → MJ → Prop} {x1 : Int32} {x2 : Int32} {k164 : Int32 → MI → MJ → Prop} (X : Cx Γ cX11_findLeast 7 RX11 3) (Y : Rt Γ (Pi Q) (Option.some Jvm.ClassFile.FieldType.boolean))  (hk164 : ∀ (x3 : Int32) (I : MI) (J : MJ), k164 x3 I J → Wp Γ 7 164 [(0, .ref (ad Γ 177)), (2, .int x2), (3, .int x3)] [] I J) : ∀ (n : Nat) (x3 : Int32) (x4 : Int32) (I : MI) (J : MJ), f_Model_findLeast_L28 x1 x2 k164 n x3 x4 I J → Wp Γ 7 28 [(0, .ref (ad Γ 177)), (1, .int x1), (2, .int x2), (3, .int x3), (4, .int x4)] [] I J := by
  intro n
  induction n with
  | zero => intro x3 x4 I J h; exact absurd h (by simp [f_Model_findLeast_L28])
  | succ n ih =>
  intro x3 x4 I J h
  unfold f_Model_findLeast_L28 at h
  refine wp_iload X dX11_findLeast_28 4 rfl ?_
  refine wp_aload_n X dX11_findLeast_30 0 rfl ?_
  refine gf_X11_190 X sh_177 dX11_findLeast_31 ?_
  refine wp_icmp_ge (tgt := 164) X dX11_findLeast_34 (by decide) (fun hc => ?_) (fun hc => ?_)
  · have h := ite_t h hc
    refine wp_sub X [0, 2, 3] rfl ?_
    exact hk164 _ _ _ h
  · have h := ite_f h hc
    refine wp_iconst X dX11_findLeast_37 ic_m1 ?_
    refine wp_istore (L' := [(5, .int (-1)), (0, .ref (ad Γ 177)), (1, .int x1), (2, .int x2), (3, .int x3), (4, .int x4)]) X dX11_findLeast_38 (by decide) rfl ?_
    refine wp_iconst X dX11_findLeast_40 ic_0 ?_
    refine wp_istore (L' := [(6, .int 0), (5, .int (-1)), (0, .ref (ad Γ 177)), (1, .int x1), (2, .int x2), (3, .int x3), (4, .int x4)]) X dX11_findLeast_41 (by decide) rfl ?_
    obtain ⟨n, h⟩ := h
    refine wp_sub X [2, 3, 4, 5, 6, 1, 0] rfl ?_
    refine w_Model_findLeast_L43 X Y  ?_ n _ _ _ _ h
    · intro z90_x5 I J h
      exact w_Model_findLeast_b90 X Y ih h

set_option maxRecDepth 100000 in
set_option maxHeartbeats 4000000 in
theorem w_Model_findLeast_b0 {Γ : Ctx} {Q : Int32 → MI → MJ → Prop} {x1 : Int32} {x2 : Int32}  (X : Cx Γ cX11_findLeast 7 RX11 3) (Y : Rt Γ (Pi Q) (Option.some Jvm.ClassFile.FieldType.boolean))   {I : MI} {J : MJ} (h : f_Model_findLeast x1 x2 I J Q) : Wp Γ 7 0 [(0, .ref (ad Γ 177)), (1, .int x1), (2, .int x2)] [] I J := by
  unfold f_Model_findLeast at h
  refine wp_aload_n X dX11_findLeast_0 0 rfl ?_
  refine wp_iload_n X dX11_findLeast_1 1 rfl ?_
  refine cv_Model_findPairs X dX11_findLeast_2 ml_X11_199  h (Nat.le_of_ble_eq_true rfl) (by decide) (fun r2 I2 J2 h => ?_)
  refine wp_if_ne (tgt := 10) X dX11_findLeast_5 (by decide) (fun hc => ?_) (fun hc => ?_)
  · have h := ite_f h hc
    refine wp_aload_n X dX11_findLeast_10 0 rfl ?_
    refine wp_iload_n X dX11_findLeast_11 1 rfl ?_
    refine cv_Model_findUnlike X dX11_findLeast_12 ml_X11_205  h (Nat.le_of_ble_eq_true rfl) (by decide) (fun I12 J12 h => ?_)
    refine wp_aload_n X dX11_findLeast_15 0 rfl ?_
    refine wp_iload_n X dX11_findLeast_16 2 rfl ?_
    refine wp_iconst X dX11_findLeast_17 ic_0 ?_
    refine wp_iconst X dX11_findLeast_18 ic_0 ?_
    refine wp_iconst X dX11_findLeast_19 ic_4 ?_
    refine cv_Model_clear X dX11_findLeast_20 ml_X11_209  h (Nat.le_of_ble_eq_true rfl) (by decide) (fun I20 J20 h => ?_)
    refine wp_iconst X dX11_findLeast_23 ic_0 ?_
    refine wp_istore_n (L' := [(3, .int 0), (0, .ref (ad Γ 177)), (1, .int x1), (2, .int x2)]) X dX11_findLeast_24 rfl (by decide) rfl ?_
    refine wp_iconst X dX11_findLeast_25 ic_0 ?_
    refine wp_istore (L' := [(4, .int 0), (3, .int 0), (0, .ref (ad Γ 177)), (1, .int x1), (2, .int x2)]) X dX11_findLeast_26 (by decide) rfl ?_
    obtain ⟨n, h⟩ := h
    refine wp_sub X [2, 3, 4, 1, 0] rfl ?_
    refine w_Model_findLeast_L28 X Y  ?_ n _ _ _ _ h
    · intro z164_x3 I J h
      refine wp_aload_n X dX11_findLeast_164 0 rfl ?_
      refine gf_X11_33 (o' := 185) X sh_177 rfl dX11_findLeast_165 ?_
      refine wp_iload_n X dX11_findLeast_168 1 rfl ?_
      refine wp_iload_n X dX11_findLeast_169 2 rfl ?_
      obtain ⟨hb170, h⟩ := h
      refine wp_iast X sh_185 hb170 dX11_findLeast_170 ?_
      refine wp_memI (fun I170 eI170 => ?_)
      have h := h I170 eI170
      refine wp_iconst X dX11_findLeast_171 ic_0 ?_
      refine wp_istore (L' := [(4, .int 0), (0, .ref (ad Γ 177)), (2, .int x2), (3, .int z164_x3)]) X dX11_findLeast_172 (by decide) rfl ?_
      obtain ⟨n, h⟩ := h
      refine wp_sub X [1, 2, 0] rfl ?_
      refine w_Model_findLeast_L174 X Y  ?_ n _ _ _ h
      · intro I J h
        refine wp_aload_n X dX11_findLeast_252 0 rfl ?_
        refine wp_iload_n X dX11_findLeast_253 1 rfl ?_
        refine cv_Model_trim X dX11_findLeast_254 ml_X11_213  h (Nat.le_of_ble_eq_true rfl) (by decide) (fun I254 J254 h => ?_)
        refine wp_iconst X dX11_findLeast_257 ic_1 ?_
        exact wp_zret X Y dX11_findLeast_258 (by decide) ⟨_, rfl, h⟩
  · have h := ite_t h hc
    refine wp_iconst X dX11_findLeast_8 ic_0 ?_
    exact wp_zret X Y dX11_findLeast_9 (by decide) ⟨_, rfl, h⟩

theorem c_Model_findLeast {l : Launch} {g : GE} (hg : Inj g) {I : MI} {J : MJ} {Q : Int32 → MI → MJ → Prop} {x1 : Int32} {x2 : Int32}  (h : f_Model_findLeast x1 x2 I J Q) : Cm l g yX11_findLeast cX11_findLeast 7 (Option.some Jvm.ClassFile.FieldType.boolean) 3 [.ref (g.1 177), .int x1, .int x2] I J (Pi Q) := by
  refine Cm.of (As := fun ad => [.ref (ad 177), .int x1, .int x2]) hg pn_X11 (Nat.le_of_ble_eq_true rfl) ?_
  exact (fun Γ _ _ X Y => w_Model_findLeast_b0 X Y  h)
theorem cv_Model_findLeast {Γ : Ctx} {cc : ByteArray} {nL d pc index : Nat} {own : String} {L : List (Nat × Value)} {rest : List Value} {I : MI} {J : MJ} {Q : Int32 → MI → MJ → Prop} {x1 : Int32} {x2 : Int32} (X : Cx Γ cc nL own d) (hd : decode cc pc = .ok (.invokevirtual index, 3)) (hlink : Cond.methodLink own index yX11_findLeast ∈ TT)  (h : f_Model_findLeast x1 x2 I J Q) (hrest : (rest.map fun v => v.category).sum ≤ 8) (hdd : 3 + 1 ≤ d) (kk : ∀ (r : Int32) (I' : MI) (J' : MJ), Q r I' J' → Wp Γ nL (pc + 3) L (.int r :: rest) I' J') : Wp Γ nL pc L (.int x2 :: .int x1 :: .ref (ad Γ 177) :: rest) I J :=
  wp_callV (As := [.int x1, .int x2]) (rest := rest) (T := TX11) (N := 62) X hd hlink mv_X11_findLeast sh_177 (by decide) rfl (c_Model_findLeast X.inj  h) rfl rfl hrest hdd (fun v I' J' hv => by obtain ⟨r, rfl, hq⟩ := hv; exact kk r I' J' hq)
theorem dX11_machine_0 : decode cX11_machine 0 = .ok (.iload_n 1, 1) := by decide +kernel
theorem dX11_machine_1 : decode cX11_machine 1 = .ok (.invokestatic 145, 3) := by decide +kernel
theorem dX11_machine_4 : decode cX11_machine 4 = .ok (.ifCond .ne 9, 3) := by decide +kernel
theorem dX11_machine_7 : decode cX11_machine 7 = .ok (.aload_n 0, 1) := by decide +kernel
theorem dX11_machine_8 : decode cX11_machine 8 = .ok (.iconst 2, 1) := by decide +kernel
theorem dX11_machine_9 : decode cX11_machine 9 = .ok (.invokevirtual 219, 3) := by decide +kernel
theorem dX11_machine_12 : decode cX11_machine 12 = .ok (.ireturn, 1) := by decide +kernel
theorem dX11_machine_13 : decode cX11_machine 13 = .ok (.iload_n 2, 1) := by decide +kernel
theorem dX11_machine_14 : decode cX11_machine 14 = .ok (.ifCond .lt 8, 3) := by decide +kernel
theorem dX11_machine_17 : decode cX11_machine 17 = .ok (.iload_n 2, 1) := by decide +kernel
theorem dX11_machine_18 : decode cX11_machine 18 = .ok (.iconst 3, 1) := by decide +kernel
theorem dX11_machine_19 : decode cX11_machine 19 = .ok (.if_icmp .le 9, 3) := by decide +kernel
theorem dX11_machine_22 : decode cX11_machine 22 = .ok (.aload_n 0, 1) := by decide +kernel
theorem dX11_machine_23 : decode cX11_machine 23 = .ok (.iconst 4, 1) := by decide +kernel
theorem dX11_machine_24 : decode cX11_machine 24 = .ok (.invokevirtual 219, 3) := by decide +kernel
theorem dX11_machine_27 : decode cX11_machine 27 = .ok (.ireturn, 1) := by decide +kernel
theorem dX11_machine_28 : decode cX11_machine 28 = .ok (.iload_n 3, 1) := by decide +kernel
theorem dX11_machine_29 : decode cX11_machine 29 = .ok (.ifCond .lt 8, 3) := by decide +kernel
theorem dX11_machine_32 : decode cX11_machine 32 = .ok (.iload 4, 2) := by decide +kernel
theorem dX11_machine_34 : decode cX11_machine 34 = .ok (.ifCond .ge 9, 3) := by decide +kernel
theorem dX11_machine_37 : decode cX11_machine 37 = .ok (.aload_n 0, 1) := by decide +kernel
theorem dX11_machine_38 : decode cX11_machine 38 = .ok (.iconst 3, 1) := by decide +kernel
theorem dX11_machine_39 : decode cX11_machine 39 = .ok (.invokevirtual 219, 3) := by decide +kernel
theorem dX11_machine_42 : decode cX11_machine 42 = .ok (.ireturn, 1) := by decide +kernel
theorem dX11_machine_43 : decode cX11_machine 43 = .ok (.iload_n 3, 1) := by decide +kernel
theorem dX11_machine_44 : decode cX11_machine 44 = .ok (.iconst 1, 1) := by decide +kernel
theorem dX11_machine_45 : decode cX11_machine 45 = .ok (.if_icmp .lt 21, 3) := by decide +kernel
theorem dX11_machine_48 : decode cX11_machine 48 = .ok (.iload_n 3, 1) := by decide +kernel
theorem dX11_machine_49 : decode cX11_machine 49 = .ok (.bipush 14, 2) := by decide +kernel
theorem dX11_machine_51 : decode cX11_machine 51 = .ok (.if_icmp .gt 15, 3) := by decide +kernel
theorem dX11_machine_54 : decode cX11_machine 54 = .ok (.iload 4, 2) := by decide +kernel
theorem dX11_machine_56 : decode cX11_machine 56 = .ok (.iconst 1, 1) := by decide +kernel
theorem dX11_machine_57 : decode cX11_machine 57 = .ok (.if_icmp .lt 9, 3) := by decide +kernel
theorem dX11_machine_60 : decode cX11_machine 60 = .ok (.iload 4, 2) := by decide +kernel
theorem dX11_machine_62 : decode cX11_machine 62 = .ok (.iconst 4, 1) := by decide +kernel
theorem dX11_machine_63 : decode cX11_machine 63 = .ok (.if_icmp .le 9, 3) := by decide +kernel
theorem dX11_machine_66 : decode cX11_machine 66 = .ok (.aload_n 0, 1) := by decide +kernel
theorem dX11_machine_67 : decode cX11_machine 67 = .ok (.iconst 2, 1) := by decide +kernel
theorem dX11_machine_68 : decode cX11_machine 68 = .ok (.invokevirtual 219, 3) := by decide +kernel
theorem dX11_machine_71 : decode cX11_machine 71 = .ok (.ireturn, 1) := by decide +kernel
theorem dX11_machine_72 : decode cX11_machine 72 = .ok (.aload_n 0, 1) := by decide +kernel
theorem dX11_machine_73 : decode cX11_machine 73 = .ok (.iload_n 1, 1) := by decide +kernel
theorem dX11_machine_74 : decode cX11_machine 74 = .ok (.iload_n 2, 1) := by decide +kernel
theorem dX11_machine_75 : decode cX11_machine 75 = .ok (.iload_n 3, 1) := by decide +kernel
theorem dX11_machine_76 : decode cX11_machine 76 = .ok (.iload 4, 2) := by decide +kernel
theorem dX11_machine_78 : decode cX11_machine 78 = .ok (.invokevirtual 209, 3) := by decide +kernel
theorem dX11_machine_81 : decode cX11_machine 81 = .ok (.aload_n 0, 1) := by decide +kernel
theorem dX11_machine_82 : decode cX11_machine 82 = .ok (.getfield 7, 3) := by decide +kernel
theorem dX11_machine_85 : decode cX11_machine 85 = .ok (.iload_n 1, 1) := by decide +kernel
theorem dX11_machine_86 : decode cX11_machine 86 = .ok (.iload_n 2, 1) := by decide +kernel
theorem dX11_machine_87 : decode cX11_machine 87 = .ok (.iastore, 1) := by decide +kernel
theorem dX11_machine_88 : decode cX11_machine 88 = .ok (.aload_n 0, 1) := by decide +kernel
theorem dX11_machine_89 : decode cX11_machine 89 = .ok (.getfield 20, 3) := by decide +kernel
theorem dX11_machine_92 : decode cX11_machine 92 = .ok (.iload_n 1, 1) := by decide +kernel
theorem dX11_machine_93 : decode cX11_machine 93 = .ok (.iconst 0, 1) := by decide +kernel
theorem dX11_machine_94 : decode cX11_machine 94 = .ok (.iastore, 1) := by decide +kernel
theorem dX11_machine_95 : decode cX11_machine 95 = .ok (.aload_n 0, 1) := by decide +kernel
theorem dX11_machine_96 : decode cX11_machine 96 = .ok (.iload_n 3, 1) := by decide +kernel
theorem dX11_machine_97 : decode cX11_machine 97 = .ok (.invokevirtual 157, 3) := by decide +kernel
theorem dX11_machine_100 : decode cX11_machine 100 = .ok (.ireturn, 1) := by decide +kernel
def f_Model_machine_b66  (Q : Int32 → MI → MJ → Prop) (I : MI) (J : MJ) : Prop :=
  f_Model_refuse (2 : Int32) I J (fun r68 I68 J68 => Q r68 I68 J68)
def f_Model_machine_b37  (Q : Int32 → MI → MJ → Prop) (I : MI) (J : MJ) : Prop :=
  f_Model_refuse (3 : Int32) I J (fun r39 I39 J39 => Q r39 I39 J39)
def f_Model_machine_b22  (Q : Int32 → MI → MJ → Prop) (I : MI) (J : MJ) : Prop :=
  f_Model_refuse (4 : Int32) I J (fun r24 I24 J24 => Q r24 I24 J24)
def f_Model_machine (x1 : Int32) (x2 : Int32) (x3 : Int32) (x4 : Int32) (I : MI) (J : MJ) (Q : Int32 → MI → MJ → Prop) : Prop :=
  f_Model_isPlace x1 I J (fun r1 I1 J1 => (if r1 = 0 then f_Model_refuse (2 : Int32) I1 J1 (fun r9 I9 J9 => Q r9 I9 J9) else (if x2 < 0 then f_Model_machine_b22 Q I1 J1 else (if x2 ≤ 3 then (if x3 < 0 then f_Model_machine_b37 Q I1 J1 else (if 0 ≤ x4 then (if x3 < 1 then f_Model_machine_b66 Q I1 J1 else (if 14 < x3 then f_Model_machine_b66 Q I1 J1 else (if x4 < 1 then f_Model_machine_b66 Q I1 J1 else (if x4 ≤ 4 then f_Model_clear x1 x2 x3 x4 I1 J1 (fun I78 J78 => vp_in x1 16 ∧ ∀ I87 : MI, I87 = sI I78 178 (upd (I78 178) x1.toNatClampNeg x2) → vp_in x1 16 ∧ ∀ I94 : MI, I94 = sI I87 181 (upd (I87 181) x1.toNatClampNeg 0) → f_Model_done x3 I94 J78 (fun r97 I97 J97 => Q r97 I97 J97)) else f_Model_machine_b66 Q I1 J1)))) else f_Model_machine_b37 Q I1 J1)) else f_Model_machine_b22 Q I1 J1))))
set_option maxRecDepth 100000 in
set_option maxHeartbeats 4000000 in
theorem w_Model_machine_b66 {Γ : Ctx} {Q : Int32 → MI → MJ → Prop}   (X : Cx Γ cX11_machine 5 RX11 2) (Y : Rt Γ (Pi Q) (Option.some Jvm.ClassFile.FieldType.int))   {I : MI} {J : MJ} (h : f_Model_machine_b66 Q I J) : Wp Γ 5 66 [(0, .ref (ad Γ 177))] [] I J := by
  unfold f_Model_machine_b66 at h
  refine wp_aload_n X dX11_machine_66 0 rfl ?_
  refine wp_iconst X dX11_machine_67 ic_2 ?_
  refine cv_Model_refuse X dX11_machine_68 ml_X11_219  h (Nat.le_of_ble_eq_true rfl) (by decide) (fun r68 I68 J68 h => ?_)
  exact wp_iret X Y dX11_machine_71 ⟨_, rfl, h⟩

set_option maxRecDepth 100000 in
set_option maxHeartbeats 4000000 in
theorem w_Model_machine_b37 {Γ : Ctx} {Q : Int32 → MI → MJ → Prop}   (X : Cx Γ cX11_machine 5 RX11 2) (Y : Rt Γ (Pi Q) (Option.some Jvm.ClassFile.FieldType.int))   {I : MI} {J : MJ} (h : f_Model_machine_b37 Q I J) : Wp Γ 5 37 [(0, .ref (ad Γ 177))] [] I J := by
  unfold f_Model_machine_b37 at h
  refine wp_aload_n X dX11_machine_37 0 rfl ?_
  refine wp_iconst X dX11_machine_38 ic_3 ?_
  refine cv_Model_refuse X dX11_machine_39 ml_X11_219  h (Nat.le_of_ble_eq_true rfl) (by decide) (fun r39 I39 J39 h => ?_)
  exact wp_iret X Y dX11_machine_42 ⟨_, rfl, h⟩

set_option maxRecDepth 100000 in
set_option maxHeartbeats 4000000 in
theorem w_Model_machine_b22 {Γ : Ctx} {Q : Int32 → MI → MJ → Prop}   (X : Cx Γ cX11_machine 5 RX11 2) (Y : Rt Γ (Pi Q) (Option.some Jvm.ClassFile.FieldType.int))   {I : MI} {J : MJ} (h : f_Model_machine_b22 Q I J) : Wp Γ 5 22 [(0, .ref (ad Γ 177))] [] I J := by
  unfold f_Model_machine_b22 at h
  refine wp_aload_n X dX11_machine_22 0 rfl ?_
  refine wp_iconst X dX11_machine_23 ic_4 ?_
  refine cv_Model_refuse X dX11_machine_24 ml_X11_219  h (Nat.le_of_ble_eq_true rfl) (by decide) (fun r24 I24 J24 h => ?_)
  exact wp_iret X Y dX11_machine_27 ⟨_, rfl, h⟩

set_option maxRecDepth 100000 in
set_option maxHeartbeats 4000000 in
theorem w_Model_machine_b0 {Γ : Ctx} {Q : Int32 → MI → MJ → Prop} {x1 : Int32} {x2 : Int32} {x3 : Int32} {x4 : Int32}  (X : Cx Γ cX11_machine 5 RX11 2) (Y : Rt Γ (Pi Q) (Option.some Jvm.ClassFile.FieldType.int))   {I : MI} {J : MJ} (h : f_Model_machine x1 x2 x3 x4 I J Q) : Wp Γ 5 0 [(0, .ref (ad Γ 177)), (1, .int x1), (2, .int x2), (3, .int x3), (4, .int x4)] [] I J := by
  unfold f_Model_machine at h
  refine wp_iload_n X dX11_machine_0 1 rfl ?_
  refine cs_Model_isPlace X dX11_machine_1 ml_X11_145  h (Nat.le_of_ble_eq_true rfl) (by decide) (fun r1 I1 J1 h => ?_)
  refine wp_if_ne (tgt := 13) X dX11_machine_4 (by decide) (fun hc => ?_) (fun hc => ?_)
  · have h := ite_f h hc
    refine wp_iload_n X dX11_machine_13 2 rfl ?_
    refine wp_if_lt (tgt := 22) X dX11_machine_14 (by decide) (fun hc => ?_) (fun hc => ?_)
    · have h := ite_t h hc
      refine wp_sub X [0] rfl ?_
      exact w_Model_machine_b22 X Y  h
    · have h := ite_f h hc
      refine wp_iload_n X dX11_machine_17 2 rfl ?_
      refine wp_iconst X dX11_machine_18 ic_3 ?_
      refine wp_icmp_le (tgt := 28) X dX11_machine_19 (by decide) (fun hc => ?_) (fun hc => ?_)
      · have h := ite_t h hc
        refine wp_iload_n X dX11_machine_28 3 rfl ?_
        refine wp_if_lt (tgt := 37) X dX11_machine_29 (by decide) (fun hc => ?_) (fun hc => ?_)
        · have h := ite_t h hc
          refine wp_sub X [0] rfl ?_
          exact w_Model_machine_b37 X Y  h
        · have h := ite_f h hc
          refine wp_iload X dX11_machine_32 4 rfl ?_
          refine wp_if_ge (tgt := 43) X dX11_machine_34 (by decide) (fun hc => ?_) (fun hc => ?_)
          · have h := ite_t h hc
            refine wp_iload_n X dX11_machine_43 3 rfl ?_
            refine wp_iconst X dX11_machine_44 ic_1 ?_
            refine wp_icmp_lt (tgt := 66) X dX11_machine_45 (by decide) (fun hc => ?_) (fun hc => ?_)
            · have h := ite_t h hc
              refine wp_sub X [0] rfl ?_
              exact w_Model_machine_b66 X Y  h
            · have h := ite_f h hc
              refine wp_iload_n X dX11_machine_48 3 rfl ?_
              refine wp_bipush X dX11_machine_49 bi_14 ?_
              refine wp_icmp_gt (tgt := 66) X dX11_machine_51 (by decide) (fun hc => ?_) (fun hc => ?_)
              · have h := ite_t h hc
                refine wp_sub X [0] rfl ?_
                exact w_Model_machine_b66 X Y  h
              · have h := ite_f h hc
                refine wp_iload X dX11_machine_54 4 rfl ?_
                refine wp_iconst X dX11_machine_56 ic_1 ?_
                refine wp_icmp_lt (tgt := 66) X dX11_machine_57 (by decide) (fun hc => ?_) (fun hc => ?_)
                · have h := ite_t h hc
                  refine wp_sub X [0] rfl ?_
                  exact w_Model_machine_b66 X Y  h
                · have h := ite_f h hc
                  refine wp_iload X dX11_machine_60 4 rfl ?_
                  refine wp_iconst X dX11_machine_62 ic_4 ?_
                  refine wp_icmp_le (tgt := 72) X dX11_machine_63 (by decide) (fun hc => ?_) (fun hc => ?_)
                  · have h := ite_t h hc
                    refine wp_aload_n X dX11_machine_72 0 rfl ?_
                    refine wp_iload_n X dX11_machine_73 1 rfl ?_
                    refine wp_iload_n X dX11_machine_74 2 rfl ?_
                    refine wp_iload_n X dX11_machine_75 3 rfl ?_
                    refine wp_iload X dX11_machine_76 4 rfl ?_
                    refine cv_Model_clear X dX11_machine_78 ml_X11_209  h (Nat.le_of_ble_eq_true rfl) (by decide) (fun I78 J78 h => ?_)
                    refine wp_aload_n X dX11_machine_81 0 rfl ?_
                    refine gf_X11_7 (o' := 178) X sh_177 rfl dX11_machine_82 ?_
                    refine wp_iload_n X dX11_machine_85 1 rfl ?_
                    refine wp_iload_n X dX11_machine_86 2 rfl ?_
                    obtain ⟨hb87, h⟩ := h
                    refine wp_iast X sh_178 hb87 dX11_machine_87 ?_
                    refine wp_memI (fun I87 eI87 => ?_)
                    have h := h I87 eI87
                    refine wp_aload_n X dX11_machine_88 0 rfl ?_
                    refine gf_X11_20 (o' := 181) X sh_177 rfl dX11_machine_89 ?_
                    refine wp_iload_n X dX11_machine_92 1 rfl ?_
                    refine wp_iconst X dX11_machine_93 ic_0 ?_
                    obtain ⟨hb94, h⟩ := h
                    refine wp_iast X sh_181 hb94 dX11_machine_94 ?_
                    refine wp_memI (fun I94 eI94 => ?_)
                    have h := h I94 eI94
                    refine wp_aload_n X dX11_machine_95 0 rfl ?_
                    refine wp_iload_n X dX11_machine_96 3 rfl ?_
                    refine cv_Model_done X dX11_machine_97 ml_X11_157  h (Nat.le_of_ble_eq_true rfl) (by decide) (fun r97 I97 J97 h => ?_)
                    exact wp_iret X Y dX11_machine_100 ⟨_, rfl, h⟩
                  · have h := ite_f h hc
                    refine wp_sub X [0] rfl ?_
                    exact w_Model_machine_b66 X Y  h
          · have h := ite_f h hc
            refine wp_sub X [0] rfl ?_
            exact w_Model_machine_b37 X Y  h
      · have h := ite_f h hc
        refine wp_sub X [0] rfl ?_
        exact w_Model_machine_b22 X Y  h
  · have h := ite_t h hc
    refine wp_aload_n X dX11_machine_7 0 rfl ?_
    refine wp_iconst X dX11_machine_8 ic_2 ?_
    refine cv_Model_refuse X dX11_machine_9 ml_X11_219  h (Nat.le_of_ble_eq_true rfl) (by decide) (fun r9 I9 J9 h => ?_)
    exact wp_iret X Y dX11_machine_12 ⟨_, rfl, h⟩

theorem c_Model_machine {l : Launch} {g : GE} (hg : Inj g) {I : MI} {J : MJ} {Q : Int32 → MI → MJ → Prop} {x1 : Int32} {x2 : Int32} {x3 : Int32} {x4 : Int32}  (h : f_Model_machine x1 x2 x3 x4 I J Q) : Cm l g yX11_machine cX11_machine 5 (Option.some Jvm.ClassFile.FieldType.int) 2 [.ref (g.1 177), .int x1, .int x2, .int x3, .int x4] I J (Pi Q) := by
  refine Cm.of (As := fun ad => [.ref (ad 177), .int x1, .int x2, .int x3, .int x4]) hg pn_X11 (Nat.le_of_ble_eq_true rfl) ?_
  exact (fun Γ _ _ X Y => w_Model_machine_b0 X Y  h)
theorem cv_Model_machine {Γ : Ctx} {cc : ByteArray} {nL d pc index : Nat} {own : String} {L : List (Nat × Value)} {rest : List Value} {I : MI} {J : MJ} {Q : Int32 → MI → MJ → Prop} {x1 : Int32} {x2 : Int32} {x3 : Int32} {x4 : Int32} (X : Cx Γ cc nL own d) (hd : decode cc pc = .ok (.invokevirtual index, 3)) (hlink : Cond.methodLink own index yX11_machine ∈ TT)  (h : f_Model_machine x1 x2 x3 x4 I J Q) (hrest : (rest.map fun v => v.category).sum ≤ 8) (hdd : 2 + 1 ≤ d) (kk : ∀ (r : Int32) (I' : MI) (J' : MJ), Q r I' J' → Wp Γ nL (pc + 3) L (.int r :: rest) I' J') : Wp Γ nL pc L (.int x4 :: .int x3 :: .int x2 :: .int x1 :: .ref (ad Γ 177) :: rest) I J :=
  wp_callV (As := [.int x1, .int x2, .int x3, .int x4]) (rest := rest) (T := TX11) (N := 62) X hd hlink mv_X11_machine sh_177 (by decide) rfl (c_Model_machine X.inj  h) rfl rfl hrest hdd (fun v I' J' hv => by obtain ⟨r, rfl, hq⟩ := hv; exact kk r I' J' hq)
theorem dX11_row_0 : decode cX11_row 0 = .ok (.aload_n 0, 1) := by decide +kernel
theorem dX11_row_1 : decode cX11_row 1 = .ok (.iload_n 1, 1) := by decide +kernel
theorem dX11_row_2 : decode cX11_row 2 = .ok (.invokevirtual 222, 3) := by decide +kernel
theorem dX11_row_5 : decode cX11_row 5 = .ok (.ifCond .eq 13, 3) := by decide +kernel
theorem dX11_row_8 : decode cX11_row 8 = .ok (.aload_n 0, 1) := by decide +kernel
theorem dX11_row_9 : decode cX11_row 9 = .ok (.aload_n 0, 1) := by decide +kernel
theorem dX11_row_10 : decode cX11_row 10 = .ok (.iload_n 1, 1) := by decide +kernel
theorem dX11_row_11 : decode cX11_row 11 = .ok (.invokevirtual 222, 3) := by decide +kernel
theorem dX11_row_14 : decode cX11_row 14 = .ok (.invokevirtual 219, 3) := by decide +kernel
theorem dX11_row_17 : decode cX11_row 17 = .ok (.ireturn, 1) := by decide +kernel
theorem dX11_row_18 : decode cX11_row 18 = .ok (.aload_n 0, 1) := by decide +kernel
theorem dX11_row_19 : decode cX11_row 19 = .ok (.getfield 7, 3) := by decide +kernel
theorem dX11_row_22 : decode cX11_row 22 = .ok (.iload_n 1, 1) := by decide +kernel
theorem dX11_row_23 : decode cX11_row 23 = .ok (.iaload, 1) := by decide +kernel
theorem dX11_row_24 : decode cX11_row 24 = .ok (.iconst 2, 1) := by decide +kernel
theorem dX11_row_25 : decode cX11_row 25 = .ok (.if_icmp .ge 9, 3) := by decide +kernel
theorem dX11_row_28 : decode cX11_row 28 = .ok (.aload_n 0, 1) := by decide +kernel
theorem dX11_row_29 : decode cX11_row 29 = .ok (.iconst 4, 1) := by decide +kernel
theorem dX11_row_30 : decode cX11_row 30 = .ok (.invokevirtual 219, 3) := by decide +kernel
theorem dX11_row_33 : decode cX11_row 33 = .ok (.ireturn, 1) := by decide +kernel
theorem dX11_row_34 : decode cX11_row 34 = .ok (.aload_n 0, 1) := by decide +kernel
theorem dX11_row_35 : decode cX11_row 35 = .ok (.iload_n 1, 1) := by decide +kernel
theorem dX11_row_36 : decode cX11_row 36 = .ok (.iload_n 2, 1) := by decide +kernel
theorem dX11_row_37 : decode cX11_row 37 = .ok (.invokevirtual 225, 3) := by decide +kernel
theorem dX11_row_40 : decode cX11_row 40 = .ok (.ifCond .ne 9, 3) := by decide +kernel
theorem dX11_row_43 : decode cX11_row 43 = .ok (.aload_n 0, 1) := by decide +kernel
theorem dX11_row_44 : decode cX11_row 44 = .ok (.iconst 2, 1) := by decide +kernel
theorem dX11_row_45 : decode cX11_row 45 = .ok (.invokevirtual 219, 3) := by decide +kernel
theorem dX11_row_48 : decode cX11_row 48 = .ok (.ireturn, 1) := by decide +kernel
theorem dX11_row_49 : decode cX11_row 49 = .ok (.iload_n 3, 1) := by decide +kernel
theorem dX11_row_50 : decode cX11_row 50 = .ok (.ifCond .ge 9, 3) := by decide +kernel
theorem dX11_row_53 : decode cX11_row 53 = .ok (.aload_n 0, 1) := by decide +kernel
theorem dX11_row_54 : decode cX11_row 54 = .ok (.iconst 3, 1) := by decide +kernel
theorem dX11_row_55 : decode cX11_row 55 = .ok (.invokevirtual 219, 3) := by decide +kernel
theorem dX11_row_58 : decode cX11_row 58 = .ok (.ireturn, 1) := by decide +kernel
theorem dX11_row_59 : decode cX11_row 59 = .ok (.iload_n 3, 1) := by decide +kernel
theorem dX11_row_60 : decode cX11_row 60 = .ok (.aload_n 0, 1) := by decide +kernel
theorem dX11_row_61 : decode cX11_row 61 = .ok (.getfield 36, 3) := by decide +kernel
theorem dX11_row_64 : decode cX11_row 64 = .ok (.iload_n 1, 1) := by decide +kernel
theorem dX11_row_65 : decode cX11_row 65 = .ok (.iaload, 1) := by decide +kernel
theorem dX11_row_66 : decode cX11_row 66 = .ok (.if_icmp .le 9, 3) := by decide +kernel
theorem dX11_row_69 : decode cX11_row 69 = .ok (.aload_n 0, 1) := by decide +kernel
theorem dX11_row_70 : decode cX11_row 70 = .ok (.iconst 2, 1) := by decide +kernel
theorem dX11_row_71 : decode cX11_row 71 = .ok (.invokevirtual 219, 3) := by decide +kernel
theorem dX11_row_74 : decode cX11_row 74 = .ok (.ireturn, 1) := by decide +kernel
theorem dX11_row_75 : decode cX11_row 75 = .ok (.aload_n 0, 1) := by decide +kernel
theorem dX11_row_76 : decode cX11_row 76 = .ok (.getfield 42, 3) := by decide +kernel
theorem dX11_row_79 : decode cX11_row 79 = .ok (.bipush 14, 2) := by decide +kernel
theorem dX11_row_81 : decode cX11_row 81 = .ok (.iload_n 1, 1) := by decide +kernel
theorem dX11_row_82 : decode cX11_row 82 = .ok (.imul, 1) := by decide +kernel
theorem dX11_row_83 : decode cX11_row 83 = .ok (.iload_n 2, 1) := by decide +kernel
theorem dX11_row_84 : decode cX11_row 84 = .ok (.iadd, 1) := by decide +kernel
theorem dX11_row_85 : decode cX11_row 85 = .ok (.iload_n 3, 1) := by decide +kernel
theorem dX11_row_86 : decode cX11_row 86 = .ok (.iastore, 1) := by decide +kernel
theorem dX11_row_87 : decode cX11_row 87 = .ok (.iconst 0, 1) := by decide +kernel
theorem dX11_row_88 : decode cX11_row 88 = .ok (.istore 4, 2) := by decide +kernel
theorem dX11_row_90 : decode cX11_row 90 = .ok (.iload 4, 2) := by decide +kernel
theorem dX11_row_92 : decode cX11_row 92 = .ok (.iload_n 3, 1) := by decide +kernel
theorem dX11_row_93 : decode cX11_row 93 = .ok (.if_icmp .ge 35, 3) := by decide +kernel
theorem dX11_row_96 : decode cX11_row 96 = .ok (.aload_n 0, 1) := by decide +kernel
theorem dX11_row_97 : decode cX11_row 97 = .ok (.getfield 45, 3) := by decide +kernel
theorem dX11_row_100 : decode cX11_row 100 = .ok (.iload_n 1, 1) := by decide +kernel
theorem dX11_row_101 : decode cX11_row 101 = .ok (.iload_n 2, 1) := by decide +kernel
theorem dX11_row_102 : decode cX11_row 102 = .ok (.iload 4, 2) := by decide +kernel
theorem dX11_row_104 : decode cX11_row 104 = .ok (.invokestatic 149, 3) := by decide +kernel
theorem dX11_row_107 : decode cX11_row 107 = .ok (.iconst (-1), 1) := by decide +kernel
theorem dX11_row_108 : decode cX11_row 108 = .ok (.iastore, 1) := by decide +kernel
theorem dX11_row_109 : decode cX11_row 109 = .ok (.aload_n 0, 1) := by decide +kernel
theorem dX11_row_110 : decode cX11_row 110 = .ok (.getfield 48, 3) := by decide +kernel
theorem dX11_row_113 : decode cX11_row 113 = .ok (.iload_n 1, 1) := by decide +kernel
theorem dX11_row_114 : decode cX11_row 114 = .ok (.iload_n 2, 1) := by decide +kernel
theorem dX11_row_115 : decode cX11_row 115 = .ok (.iload 4, 2) := by decide +kernel
theorem dX11_row_117 : decode cX11_row 117 = .ok (.invokestatic 149, 3) := by decide +kernel
theorem dX11_row_120 : decode cX11_row 120 = .ok (.iconst 0, 1) := by decide +kernel
theorem dX11_row_121 : decode cX11_row 121 = .ok (.iastore, 1) := by decide +kernel
theorem dX11_row_122 : decode cX11_row 122 = .ok (.iinc 4 1, 3) := by decide +kernel
theorem dX11_row_125 : decode cX11_row 125 = .ok (.goto (-35), 3) := by decide +kernel
theorem dX11_row_128 : decode cX11_row 128 = .ok (.aload_n 0, 1) := by decide +kernel
theorem dX11_row_129 : decode cX11_row 129 = .ok (.iload_n 3, 1) := by decide +kernel
theorem dX11_row_130 : decode cX11_row 130 = .ok (.invokevirtual 157, 3) := by decide +kernel
theorem dX11_row_133 : decode cX11_row 133 = .ok (.ireturn, 1) := by decide +kernel
def f_Model_row_L90 (x1 : Int32) (x2 : Int32) (x3 : Int32) (k128 : MI → MJ → Prop) : Nat → Int32 → MI → MJ → Prop
  | 0, _, _, _ => False
  | nf90 + 1, x4, I, J =>
  (if x3 ≤ x4 then k128 I J else f_Model_spot x1 x2 x4 I J (fun r104 I104 J104 => vp_in r104 1120 ∧ ∀ I108 : MI, I108 = sI I104 189 (upd (I104 189) r104.toNatClampNeg (-1)) → f_Model_spot x1 x2 x4 I108 J104 (fun r117 I117 J117 => vp_in r117 1120 ∧ ∀ I121 : MI, I121 = sI I117 190 (upd (I117 190) r117.toNatClampNeg 0) → ∀ t122 : Int32, t122 = x4 + 1 → f_Model_row_L90 x1 x2 x3 k128 nf90 t122 I121 J117)))
def f_Model_row (x1 : Int32) (x2 : Int32) (x3 : Int32) (I : MI) (J : MJ) (Q : Int32 → MI → MJ → Prop) : Prop :=
  f_Model_noMachine x1 I J (fun r2 I2 J2 => (if r2 = 0 then vp_in x1 16 ∧ (if 2 ≤ (I2 178 x1.toNatClampNeg) then f_Model_isState x1 x2 I2 J2 (fun r37 I37 J37 => (if r37 = 0 then f_Model_refuse (2 : Int32) I37 J37 (fun r45 I45 J45 => Q r45 I45 J45) else (if 0 ≤ x3 then vp_in x1 20 ∧ (if x3 ≤ (I37 186 x1.toNatClampNeg) then vp_in ((14 * x1) + x2) 280 ∧ ∀ I86 : MI, I86 = sI I37 188 (upd (I37 188) ((14 * x1) + x2).toNatClampNeg x3) → ∃ n, f_Model_row_L90 x1 x2 x3 (fun (I : MI) (J : MJ) => f_Model_done x3 I J (fun r130 I130 J130 => Q r130 I130 J130)) n 0 I86 J37 else f_Model_refuse (2 : Int32) I37 J37 (fun r71 I71 J71 => Q r71 I71 J71)) else f_Model_refuse (3 : Int32) I37 J37 (fun r55 I55 J55 => Q r55 I55 J55)))) else f_Model_refuse (4 : Int32) I2 J2 (fun r30 I30 J30 => Q r30 I30 J30)) else f_Model_noMachine x1 I2 J2 (fun r11 I11 J11 => f_Model_refuse r11 I11 J11 (fun r14 I14 J14 => Q r14 I14 J14))))
set_option maxRecDepth 100000 in
set_option maxHeartbeats 4000000 in
theorem w_Model_row_L90 {Γ : Ctx} {Q : Int32 → MI → MJ → Prop} {x1 : Int32} {x2 : Int32} {x3 : Int32} {k128 : MI → MJ → Prop} (X : Cx Γ cX11_row 5 RX11 2) (Y : Rt Γ (Pi Q) (Option.some Jvm.ClassFile.FieldType.int))  (hk128 : ∀ (I : MI) (J : MJ), k128 I J → Wp Γ 5 128 [(0, .ref (ad Γ 177)), (3, .int x3)] [] I J) : ∀ (n : Nat) (x4 : Int32) (I : MI) (J : MJ), f_Model_row_L90 x1 x2 x3 k128 n x4 I J → Wp Γ 5 90 [(0, .ref (ad Γ 177)), (1, .int x1), (2, .int x2), (3, .int x3), (4, .int x4)] [] I J := by
  intro n
  induction n with
  | zero => intro x4 I J h; exact absurd h (by simp [f_Model_row_L90])
  | succ n ih =>
  intro x4 I J h
  unfold f_Model_row_L90 at h
  refine wp_iload X dX11_row_90 4 rfl ?_
  refine wp_iload_n X dX11_row_92 3 rfl ?_
  refine wp_icmp_ge (tgt := 128) X dX11_row_93 (by decide) (fun hc => ?_) (fun hc => ?_)
  · have h := ite_t h hc
    refine wp_sub X [0, 3] rfl ?_
    exact hk128 _ _ h
  · have h := ite_f h hc
    refine wp_aload_n X dX11_row_96 0 rfl ?_
    refine gf_X11_45 (o' := 189) X sh_177 rfl dX11_row_97 ?_
    refine wp_iload_n X dX11_row_100 1 rfl ?_
    refine wp_iload_n X dX11_row_101 2 rfl ?_
    refine wp_iload X dX11_row_102 4 rfl ?_
    refine cs_Model_spot X dX11_row_104 ml_X11_149  h (Nat.le_of_ble_eq_true rfl) (by decide) (fun r104 I104 J104 h => ?_)
    refine wp_iconst X dX11_row_107 ic_m1 ?_
    obtain ⟨hb108, h⟩ := h
    refine wp_iast X sh_189 hb108 dX11_row_108 ?_
    refine wp_memI (fun I108 eI108 => ?_)
    have h := h I108 eI108
    refine wp_aload_n X dX11_row_109 0 rfl ?_
    refine gf_X11_48 (o' := 190) X sh_177 rfl dX11_row_110 ?_
    refine wp_iload_n X dX11_row_113 1 rfl ?_
    refine wp_iload_n X dX11_row_114 2 rfl ?_
    refine wp_iload X dX11_row_115 4 rfl ?_
    refine cs_Model_spot X dX11_row_117 ml_X11_149  h (Nat.le_of_ble_eq_true rfl) (by decide) (fun r117 I117 J117 h => ?_)
    refine wp_iconst X dX11_row_120 ic_0 ?_
    obtain ⟨hb121, h⟩ := h
    refine wp_iast X sh_190 hb121 dX11_row_121 ?_
    refine wp_memI (fun I121 eI121 => ?_)
    have h := h I121 eI121
    obtain ⟨t122, et122⟩ : ∃ y : Int32, y = x4 + 1 := ⟨_, rfl⟩
    have h := h t122 et122
    refine wp_iinc (L' := [(4, .int t122), (0, .ref (ad Γ 177)), (1, .int x1), (2, .int x2), (3, .int x3)]) X dX11_row_122 4 rfl (ii_1 et122) (by decide) rfl ?_
    refine wp_goto (tgt := 90) X dX11_row_125 (by decide) ?_
    refine wp_sub X [1, 2, 3, 4, 0] rfl ?_
    exact ih _ _ _ h

set_option maxRecDepth 100000 in
set_option maxHeartbeats 4000000 in
theorem w_Model_row_b0 {Γ : Ctx} {Q : Int32 → MI → MJ → Prop} {x1 : Int32} {x2 : Int32} {x3 : Int32}  (X : Cx Γ cX11_row 5 RX11 2) (Y : Rt Γ (Pi Q) (Option.some Jvm.ClassFile.FieldType.int))   {I : MI} {J : MJ} (h : f_Model_row x1 x2 x3 I J Q) : Wp Γ 5 0 [(0, .ref (ad Γ 177)), (1, .int x1), (2, .int x2), (3, .int x3)] [] I J := by
  unfold f_Model_row at h
  refine wp_aload_n X dX11_row_0 0 rfl ?_
  refine wp_iload_n X dX11_row_1 1 rfl ?_
  refine cv_Model_noMachine X dX11_row_2 ml_X11_222  h (Nat.le_of_ble_eq_true rfl) (by decide) (fun r2 I2 J2 h => ?_)
  refine wp_if_eq (tgt := 18) X dX11_row_5 (by decide) (fun hc => ?_) (fun hc => ?_)
  · have h := ite_t h hc
    refine wp_aload_n X dX11_row_18 0 rfl ?_
    refine gf_X11_7 (o' := 178) X sh_177 rfl dX11_row_19 ?_
    refine wp_iload_n X dX11_row_22 1 rfl ?_
    obtain ⟨hb23, h⟩ := h
    refine wp_iald X sh_178 hb23 dX11_row_23 ?_
    refine wp_iconst X dX11_row_24 ic_2 ?_
    refine wp_icmp_ge (tgt := 34) X dX11_row_25 (by decide) (fun hc => ?_) (fun hc => ?_)
    · have h := ite_t h hc
      refine wp_aload_n X dX11_row_34 0 rfl ?_
      refine wp_iload_n X dX11_row_35 1 rfl ?_
      refine wp_iload_n X dX11_row_36 2 rfl ?_
      refine cv_Model_isState X dX11_row_37 ml_X11_225  h (Nat.le_of_ble_eq_true rfl) (by decide) (fun r37 I37 J37 h => ?_)
      refine wp_if_ne (tgt := 49) X dX11_row_40 (by decide) (fun hc => ?_) (fun hc => ?_)
      · have h := ite_f h hc
        refine wp_iload_n X dX11_row_49 3 rfl ?_
        refine wp_if_ge (tgt := 59) X dX11_row_50 (by decide) (fun hc => ?_) (fun hc => ?_)
        · have h := ite_t h hc
          refine wp_iload_n X dX11_row_59 3 rfl ?_
          refine wp_aload_n X dX11_row_60 0 rfl ?_
          refine gf_X11_36 (o' := 186) X sh_177 rfl dX11_row_61 ?_
          refine wp_iload_n X dX11_row_64 1 rfl ?_
          obtain ⟨hb65, h⟩ := h
          refine wp_iald X sh_186 hb65 dX11_row_65 ?_
          refine wp_icmp_le (tgt := 75) X dX11_row_66 (by decide) (fun hc => ?_) (fun hc => ?_)
          · have h := ite_t h hc
            refine wp_aload_n X dX11_row_75 0 rfl ?_
            refine gf_X11_42 (o' := 188) X sh_177 rfl dX11_row_76 ?_
            refine wp_bipush X dX11_row_79 bi_14 ?_
            refine wp_iload_n X dX11_row_81 1 rfl ?_
            refine wp_imul X dX11_row_82 ?_
            refine wp_iload_n X dX11_row_83 2 rfl ?_
            refine wp_iadd X dX11_row_84 ?_
            refine wp_iload_n X dX11_row_85 3 rfl ?_
            obtain ⟨hb86, h⟩ := h
            refine wp_iast X sh_188 hb86 dX11_row_86 ?_
            refine wp_memI (fun I86 eI86 => ?_)
            have h := h I86 eI86
            refine wp_iconst X dX11_row_87 ic_0 ?_
            refine wp_istore (L' := [(4, .int 0), (0, .ref (ad Γ 177)), (1, .int x1), (2, .int x2), (3, .int x3)]) X dX11_row_88 (by decide) rfl ?_
            obtain ⟨n, h⟩ := h
            refine wp_sub X [1, 2, 3, 4, 0] rfl ?_
            refine w_Model_row_L90 X Y  ?_ n _ _ _ h
            · intro I J h
              refine wp_aload_n X dX11_row_128 0 rfl ?_
              refine wp_iload_n X dX11_row_129 1 rfl ?_
              refine cv_Model_done X dX11_row_130 ml_X11_157  h (Nat.le_of_ble_eq_true rfl) (by decide) (fun r130 I130 J130 h => ?_)
              exact wp_iret X Y dX11_row_133 ⟨_, rfl, h⟩
          · have h := ite_f h hc
            refine wp_aload_n X dX11_row_69 0 rfl ?_
            refine wp_iconst X dX11_row_70 ic_2 ?_
            refine cv_Model_refuse X dX11_row_71 ml_X11_219  h (Nat.le_of_ble_eq_true rfl) (by decide) (fun r71 I71 J71 h => ?_)
            exact wp_iret X Y dX11_row_74 ⟨_, rfl, h⟩
        · have h := ite_f h hc
          refine wp_aload_n X dX11_row_53 0 rfl ?_
          refine wp_iconst X dX11_row_54 ic_3 ?_
          refine cv_Model_refuse X dX11_row_55 ml_X11_219  h (Nat.le_of_ble_eq_true rfl) (by decide) (fun r55 I55 J55 h => ?_)
          exact wp_iret X Y dX11_row_58 ⟨_, rfl, h⟩
      · have h := ite_t h hc
        refine wp_aload_n X dX11_row_43 0 rfl ?_
        refine wp_iconst X dX11_row_44 ic_2 ?_
        refine cv_Model_refuse X dX11_row_45 ml_X11_219  h (Nat.le_of_ble_eq_true rfl) (by decide) (fun r45 I45 J45 h => ?_)
        exact wp_iret X Y dX11_row_48 ⟨_, rfl, h⟩
    · have h := ite_f h hc
      refine wp_aload_n X dX11_row_28 0 rfl ?_
      refine wp_iconst X dX11_row_29 ic_4 ?_
      refine cv_Model_refuse X dX11_row_30 ml_X11_219  h (Nat.le_of_ble_eq_true rfl) (by decide) (fun r30 I30 J30 h => ?_)
      exact wp_iret X Y dX11_row_33 ⟨_, rfl, h⟩
  · have h := ite_f h hc
    refine wp_aload_n X dX11_row_8 0 rfl ?_
    refine wp_aload_n X dX11_row_9 0 rfl ?_
    refine wp_iload_n X dX11_row_10 1 rfl ?_
    refine cv_Model_noMachine X dX11_row_11 ml_X11_222  h (Nat.le_of_ble_eq_true rfl) (by decide) (fun r11 I11 J11 h => ?_)
    refine cv_Model_refuse X dX11_row_14 ml_X11_219  h (Nat.le_of_ble_eq_true rfl) (by decide) (fun r14 I14 J14 h => ?_)
    exact wp_iret X Y dX11_row_17 ⟨_, rfl, h⟩

theorem c_Model_row {l : Launch} {g : GE} (hg : Inj g) {I : MI} {J : MJ} {Q : Int32 → MI → MJ → Prop} {x1 : Int32} {x2 : Int32} {x3 : Int32}  (h : f_Model_row x1 x2 x3 I J Q) : Cm l g yX11_row cX11_row 5 (Option.some Jvm.ClassFile.FieldType.int) 2 [.ref (g.1 177), .int x1, .int x2, .int x3] I J (Pi Q) := by
  refine Cm.of (As := fun ad => [.ref (ad 177), .int x1, .int x2, .int x3]) hg pn_X11 (Nat.le_of_ble_eq_true rfl) ?_
  exact (fun Γ _ _ X Y => w_Model_row_b0 X Y  h)
theorem cv_Model_row {Γ : Ctx} {cc : ByteArray} {nL d pc index : Nat} {own : String} {L : List (Nat × Value)} {rest : List Value} {I : MI} {J : MJ} {Q : Int32 → MI → MJ → Prop} {x1 : Int32} {x2 : Int32} {x3 : Int32} (X : Cx Γ cc nL own d) (hd : decode cc pc = .ok (.invokevirtual index, 3)) (hlink : Cond.methodLink own index yX11_row ∈ TT)  (h : f_Model_row x1 x2 x3 I J Q) (hrest : (rest.map fun v => v.category).sum ≤ 8) (hdd : 2 + 1 ≤ d) (kk : ∀ (r : Int32) (I' : MI) (J' : MJ), Q r I' J' → Wp Γ nL (pc + 3) L (.int r :: rest) I' J') : Wp Γ nL pc L (.int x3 :: .int x2 :: .int x1 :: .ref (ad Γ 177) :: rest) I J :=
  wp_callV (As := [.int x1, .int x2, .int x3]) (rest := rest) (T := TX11) (N := 62) X hd hlink mv_X11_row sh_177 (by decide) rfl (c_Model_row X.inj  h) rfl rfl hrest hdd (fun v I' J' hv => by obtain ⟨r, rfl, hq⟩ := hv; exact kk r I' J' hq)
theorem dX11_cut_0 : decode cX11_cut 0 = .ok (.aload_n 0, 1) := by decide +kernel
theorem dX11_cut_1 : decode cX11_cut 1 = .ok (.iload_n 1, 1) := by decide +kernel
theorem dX11_cut_2 : decode cX11_cut 2 = .ok (.invokevirtual 222, 3) := by decide +kernel
theorem dX11_cut_5 : decode cX11_cut 5 = .ok (.ifCond .eq 13, 3) := by decide +kernel
theorem dX11_cut_8 : decode cX11_cut 8 = .ok (.aload_n 0, 1) := by decide +kernel
theorem dX11_cut_9 : decode cX11_cut 9 = .ok (.aload_n 0, 1) := by decide +kernel
theorem dX11_cut_10 : decode cX11_cut 10 = .ok (.iload_n 1, 1) := by decide +kernel
theorem dX11_cut_11 : decode cX11_cut 11 = .ok (.invokevirtual 222, 3) := by decide +kernel
theorem dX11_cut_14 : decode cX11_cut 14 = .ok (.invokevirtual 219, 3) := by decide +kernel
theorem dX11_cut_17 : decode cX11_cut 17 = .ok (.ireturn, 1) := by decide +kernel
theorem dX11_cut_18 : decode cX11_cut 18 = .ok (.aload_n 0, 1) := by decide +kernel
theorem dX11_cut_19 : decode cX11_cut 19 = .ok (.getfield 7, 3) := by decide +kernel
theorem dX11_cut_22 : decode cX11_cut 22 = .ok (.iload_n 1, 1) := by decide +kernel
theorem dX11_cut_23 : decode cX11_cut 23 = .ok (.iaload, 1) := by decide +kernel
theorem dX11_cut_24 : decode cX11_cut 24 = .ok (.iconst 2, 1) := by decide +kernel
theorem dX11_cut_25 : decode cX11_cut 25 = .ok (.if_icmp .ge 9, 3) := by decide +kernel
theorem dX11_cut_28 : decode cX11_cut 28 = .ok (.aload_n 0, 1) := by decide +kernel
theorem dX11_cut_29 : decode cX11_cut 29 = .ok (.iconst 4, 1) := by decide +kernel
theorem dX11_cut_30 : decode cX11_cut 30 = .ok (.invokevirtual 219, 3) := by decide +kernel
theorem dX11_cut_33 : decode cX11_cut 33 = .ok (.ireturn, 1) := by decide +kernel
theorem dX11_cut_34 : decode cX11_cut 34 = .ok (.aload_n 0, 1) := by decide +kernel
theorem dX11_cut_35 : decode cX11_cut 35 = .ok (.iload_n 1, 1) := by decide +kernel
theorem dX11_cut_36 : decode cX11_cut 36 = .ok (.iload_n 2, 1) := by decide +kernel
theorem dX11_cut_37 : decode cX11_cut 37 = .ok (.invokevirtual 225, 3) := by decide +kernel
theorem dX11_cut_40 : decode cX11_cut 40 = .ok (.ifCond .ne 9, 3) := by decide +kernel
theorem dX11_cut_43 : decode cX11_cut 43 = .ok (.aload_n 0, 1) := by decide +kernel
theorem dX11_cut_44 : decode cX11_cut 44 = .ok (.iconst 2, 1) := by decide +kernel
theorem dX11_cut_45 : decode cX11_cut 45 = .ok (.invokevirtual 219, 3) := by decide +kernel
theorem dX11_cut_48 : decode cX11_cut 48 = .ok (.ireturn, 1) := by decide +kernel
theorem dX11_cut_49 : decode cX11_cut 49 = .ok (.aload_n 0, 1) := by decide +kernel
theorem dX11_cut_50 : decode cX11_cut 50 = .ok (.getfield 42, 3) := by decide +kernel
theorem dX11_cut_53 : decode cX11_cut 53 = .ok (.bipush 14, 2) := by decide +kernel
theorem dX11_cut_55 : decode cX11_cut 55 = .ok (.iload_n 1, 1) := by decide +kernel
theorem dX11_cut_56 : decode cX11_cut 56 = .ok (.imul, 1) := by decide +kernel
theorem dX11_cut_57 : decode cX11_cut 57 = .ok (.iload_n 2, 1) := by decide +kernel
theorem dX11_cut_58 : decode cX11_cut 58 = .ok (.iadd, 1) := by decide +kernel
theorem dX11_cut_59 : decode cX11_cut 59 = .ok (.iconst (-1), 1) := by decide +kernel
theorem dX11_cut_60 : decode cX11_cut 60 = .ok (.iastore, 1) := by decide +kernel
theorem dX11_cut_61 : decode cX11_cut 61 = .ok (.aload_n 0, 1) := by decide +kernel
theorem dX11_cut_62 : decode cX11_cut 62 = .ok (.iconst 0, 1) := by decide +kernel
theorem dX11_cut_63 : decode cX11_cut 63 = .ok (.invokevirtual 157, 3) := by decide +kernel
theorem dX11_cut_66 : decode cX11_cut 66 = .ok (.ireturn, 1) := by decide +kernel
def f_Model_cut (x1 : Int32) (x2 : Int32) (I : MI) (J : MJ) (Q : Int32 → MI → MJ → Prop) : Prop :=
  f_Model_noMachine x1 I J (fun r2 I2 J2 => (if r2 = 0 then vp_in x1 16 ∧ (if 2 ≤ (I2 178 x1.toNatClampNeg) then f_Model_isState x1 x2 I2 J2 (fun r37 I37 J37 => (if r37 = 0 then f_Model_refuse (2 : Int32) I37 J37 (fun r45 I45 J45 => Q r45 I45 J45) else vp_in ((14 * x1) + x2) 280 ∧ ∀ I60 : MI, I60 = sI I37 188 (upd (I37 188) ((14 * x1) + x2).toNatClampNeg (-1)) → f_Model_done (0 : Int32) I60 J37 (fun r63 I63 J63 => Q r63 I63 J63))) else f_Model_refuse (4 : Int32) I2 J2 (fun r30 I30 J30 => Q r30 I30 J30)) else f_Model_noMachine x1 I2 J2 (fun r11 I11 J11 => f_Model_refuse r11 I11 J11 (fun r14 I14 J14 => Q r14 I14 J14))))
set_option maxRecDepth 100000 in
set_option maxHeartbeats 4000000 in
theorem w_Model_cut_b0 {Γ : Ctx} {Q : Int32 → MI → MJ → Prop} {x1 : Int32} {x2 : Int32}  (X : Cx Γ cX11_cut 3 RX11 2) (Y : Rt Γ (Pi Q) (Option.some Jvm.ClassFile.FieldType.int))   {I : MI} {J : MJ} (h : f_Model_cut x1 x2 I J Q) : Wp Γ 3 0 [(0, .ref (ad Γ 177)), (1, .int x1), (2, .int x2)] [] I J := by
  unfold f_Model_cut at h
  refine wp_aload_n X dX11_cut_0 0 rfl ?_
  refine wp_iload_n X dX11_cut_1 1 rfl ?_
  refine cv_Model_noMachine X dX11_cut_2 ml_X11_222  h (Nat.le_of_ble_eq_true rfl) (by decide) (fun r2 I2 J2 h => ?_)
  refine wp_if_eq (tgt := 18) X dX11_cut_5 (by decide) (fun hc => ?_) (fun hc => ?_)
  · have h := ite_t h hc
    refine wp_aload_n X dX11_cut_18 0 rfl ?_
    refine gf_X11_7 (o' := 178) X sh_177 rfl dX11_cut_19 ?_
    refine wp_iload_n X dX11_cut_22 1 rfl ?_
    obtain ⟨hb23, h⟩ := h
    refine wp_iald X sh_178 hb23 dX11_cut_23 ?_
    refine wp_iconst X dX11_cut_24 ic_2 ?_
    refine wp_icmp_ge (tgt := 34) X dX11_cut_25 (by decide) (fun hc => ?_) (fun hc => ?_)
    · have h := ite_t h hc
      refine wp_aload_n X dX11_cut_34 0 rfl ?_
      refine wp_iload_n X dX11_cut_35 1 rfl ?_
      refine wp_iload_n X dX11_cut_36 2 rfl ?_
      refine cv_Model_isState X dX11_cut_37 ml_X11_225  h (Nat.le_of_ble_eq_true rfl) (by decide) (fun r37 I37 J37 h => ?_)
      refine wp_if_ne (tgt := 49) X dX11_cut_40 (by decide) (fun hc => ?_) (fun hc => ?_)
      · have h := ite_f h hc
        refine wp_aload_n X dX11_cut_49 0 rfl ?_
        refine gf_X11_42 (o' := 188) X sh_177 rfl dX11_cut_50 ?_
        refine wp_bipush X dX11_cut_53 bi_14 ?_
        refine wp_iload_n X dX11_cut_55 1 rfl ?_
        refine wp_imul X dX11_cut_56 ?_
        refine wp_iload_n X dX11_cut_57 2 rfl ?_
        refine wp_iadd X dX11_cut_58 ?_
        refine wp_iconst X dX11_cut_59 ic_m1 ?_
        obtain ⟨hb60, h⟩ := h
        refine wp_iast X sh_188 hb60 dX11_cut_60 ?_
        refine wp_memI (fun I60 eI60 => ?_)
        have h := h I60 eI60
        refine wp_aload_n X dX11_cut_61 0 rfl ?_
        refine wp_iconst X dX11_cut_62 ic_0 ?_
        refine cv_Model_done X dX11_cut_63 ml_X11_157  h (Nat.le_of_ble_eq_true rfl) (by decide) (fun r63 I63 J63 h => ?_)
        exact wp_iret X Y dX11_cut_66 ⟨_, rfl, h⟩
      · have h := ite_t h hc
        refine wp_aload_n X dX11_cut_43 0 rfl ?_
        refine wp_iconst X dX11_cut_44 ic_2 ?_
        refine cv_Model_refuse X dX11_cut_45 ml_X11_219  h (Nat.le_of_ble_eq_true rfl) (by decide) (fun r45 I45 J45 h => ?_)
        exact wp_iret X Y dX11_cut_48 ⟨_, rfl, h⟩
    · have h := ite_f h hc
      refine wp_aload_n X dX11_cut_28 0 rfl ?_
      refine wp_iconst X dX11_cut_29 ic_4 ?_
      refine cv_Model_refuse X dX11_cut_30 ml_X11_219  h (Nat.le_of_ble_eq_true rfl) (by decide) (fun r30 I30 J30 h => ?_)
      exact wp_iret X Y dX11_cut_33 ⟨_, rfl, h⟩
  · have h := ite_f h hc
    refine wp_aload_n X dX11_cut_8 0 rfl ?_
    refine wp_aload_n X dX11_cut_9 0 rfl ?_
    refine wp_iload_n X dX11_cut_10 1 rfl ?_
    refine cv_Model_noMachine X dX11_cut_11 ml_X11_222  h (Nat.le_of_ble_eq_true rfl) (by decide) (fun r11 I11 J11 h => ?_)
    refine cv_Model_refuse X dX11_cut_14 ml_X11_219  h (Nat.le_of_ble_eq_true rfl) (by decide) (fun r14 I14 J14 h => ?_)
    exact wp_iret X Y dX11_cut_17 ⟨_, rfl, h⟩

theorem c_Model_cut {l : Launch} {g : GE} (hg : Inj g) {I : MI} {J : MJ} {Q : Int32 → MI → MJ → Prop} {x1 : Int32} {x2 : Int32}  (h : f_Model_cut x1 x2 I J Q) : Cm l g yX11_cut cX11_cut 3 (Option.some Jvm.ClassFile.FieldType.int) 2 [.ref (g.1 177), .int x1, .int x2] I J (Pi Q) := by
  refine Cm.of (As := fun ad => [.ref (ad 177), .int x1, .int x2]) hg pn_X11 (Nat.le_of_ble_eq_true rfl) ?_
  exact (fun Γ _ _ X Y => w_Model_cut_b0 X Y  h)
theorem cv_Model_cut {Γ : Ctx} {cc : ByteArray} {nL d pc index : Nat} {own : String} {L : List (Nat × Value)} {rest : List Value} {I : MI} {J : MJ} {Q : Int32 → MI → MJ → Prop} {x1 : Int32} {x2 : Int32} (X : Cx Γ cc nL own d) (hd : decode cc pc = .ok (.invokevirtual index, 3)) (hlink : Cond.methodLink own index yX11_cut ∈ TT)  (h : f_Model_cut x1 x2 I J Q) (hrest : (rest.map fun v => v.category).sum ≤ 8) (hdd : 2 + 1 ≤ d) (kk : ∀ (r : Int32) (I' : MI) (J' : MJ), Q r I' J' → Wp Γ nL (pc + 3) L (.int r :: rest) I' J') : Wp Γ nL pc L (.int x2 :: .int x1 :: .ref (ad Γ 177) :: rest) I J :=
  wp_callV (As := [.int x1, .int x2]) (rest := rest) (T := TX11) (N := 62) X hd hlink mv_X11_cut sh_177 (by decide) rfl (c_Model_cut X.inj  h) rfl rfl hrest hdd (fun v I' J' hv => by obtain ⟨r, rfl, hq⟩ := hv; exact kk r I' J' hq)
theorem dX11_noTake_0 : decode cX11_noTake 0 = .ok (.aload_n 0, 1) := by decide +kernel
theorem dX11_noTake_1 : decode cX11_noTake 1 = .ok (.iload_n 1, 1) := by decide +kernel
theorem dX11_noTake_2 : decode cX11_noTake 2 = .ok (.iload_n 2, 1) := by decide +kernel
theorem dX11_noTake_3 : decode cX11_noTake 3 = .ok (.invokevirtual 225, 3) := by decide +kernel
theorem dX11_noTake_6 : decode cX11_noTake 6 = .ok (.ifCond .ne 7, 3) := by decide +kernel
theorem dX11_noTake_9 : decode cX11_noTake 9 = .ok (.iconst 2, 1) := by decide +kernel
theorem dX11_noTake_10 : decode cX11_noTake 10 = .ok (.goto 31, 3) := by decide +kernel
theorem dX11_noTake_13 : decode cX11_noTake 13 = .ok (.aload_n 0, 1) := by decide +kernel
theorem dX11_noTake_14 : decode cX11_noTake 14 = .ok (.iload_n 1, 1) := by decide +kernel
theorem dX11_noTake_15 : decode cX11_noTake 15 = .ok (.iload_n 2, 1) := by decide +kernel
theorem dX11_noTake_16 : decode cX11_noTake 16 = .ok (.invokevirtual 228, 3) := by decide +kernel
theorem dX11_noTake_19 : decode cX11_noTake 19 = .ok (.ifCond .ne 7, 3) := by decide +kernel
theorem dX11_noTake_22 : decode cX11_noTake 22 = .ok (.iconst 1, 1) := by decide +kernel
theorem dX11_noTake_23 : decode cX11_noTake 23 = .ok (.goto 18, 3) := by decide +kernel
theorem dX11_noTake_26 : decode cX11_noTake 26 = .ok (.aload_n 0, 1) := by decide +kernel
theorem dX11_noTake_27 : decode cX11_noTake 27 = .ok (.iload_n 1, 1) := by decide +kernel
theorem dX11_noTake_28 : decode cX11_noTake 28 = .ok (.iload_n 2, 1) := by decide +kernel
theorem dX11_noTake_29 : decode cX11_noTake 29 = .ok (.iload_n 3, 1) := by decide +kernel
theorem dX11_noTake_30 : decode cX11_noTake 30 = .ok (.invokevirtual 168, 3) := by decide +kernel
theorem dX11_noTake_33 : decode cX11_noTake 33 = .ok (.ifCond .ne 7, 3) := by decide +kernel
theorem dX11_noTake_36 : decode cX11_noTake 36 = .ok (.iconst 2, 1) := by decide +kernel
theorem dX11_noTake_37 : decode cX11_noTake 37 = .ok (.goto 4, 3) := by decide +kernel
theorem dX11_noTake_40 : decode cX11_noTake 40 = .ok (.iconst 0, 1) := by decide +kernel
theorem dX11_noTake_41 : decode cX11_noTake 41 = .ok (.ireturn, 1) := by decide +kernel
def f_Model_noTake (x1 : Int32) (x2 : Int32) (x3 : Int32) (I : MI) (J : MJ) (Q : Int32 → MI → MJ → Prop) : Prop :=
  f_Model_isState x1 x2 I J (fun r3 I3 J3 => (if r3 = 0 then Q 2 I3 J3 else f_Model_hasRow x1 x2 I3 J3 (fun r16 I16 J16 => (if r16 = 0 then Q 1 I16 J16 else f_Model_hasTake x1 x2 x3 I16 J16 (fun r30 I30 J30 => (if r30 = 0 then Q 2 I30 J30 else Q 0 I30 J30))))))
set_option maxRecDepth 100000 in
set_option maxHeartbeats 4000000 in
theorem w_Model_noTake_b0 {Γ : Ctx} {Q : Int32 → MI → MJ → Prop} {x1 : Int32} {x2 : Int32} {x3 : Int32}  (X : Cx Γ cX11_noTake 4 RX11 1) (Y : Rt Γ (Pi Q) (Option.some Jvm.ClassFile.FieldType.int))   {I : MI} {J : MJ} (h : f_Model_noTake x1 x2 x3 I J Q) : Wp Γ 4 0 [(0, .ref (ad Γ 177)), (1, .int x1), (2, .int x2), (3, .int x3)] [] I J := by
  unfold f_Model_noTake at h
  refine wp_aload_n X dX11_noTake_0 0 rfl ?_
  refine wp_iload_n X dX11_noTake_1 1 rfl ?_
  refine wp_iload_n X dX11_noTake_2 2 rfl ?_
  refine cv_Model_isState X dX11_noTake_3 ml_X11_225  h (Nat.le_of_ble_eq_true rfl) (by decide) (fun r3 I3 J3 h => ?_)
  refine wp_if_ne (tgt := 13) X dX11_noTake_6 (by decide) (fun hc => ?_) (fun hc => ?_)
  · have h := ite_f h hc
    refine wp_aload_n X dX11_noTake_13 0 rfl ?_
    refine wp_iload_n X dX11_noTake_14 1 rfl ?_
    refine wp_iload_n X dX11_noTake_15 2 rfl ?_
    refine cv_Model_hasRow X dX11_noTake_16 ml_X11_228  h (Nat.le_of_ble_eq_true rfl) (by decide) (fun r16 I16 J16 h => ?_)
    refine wp_if_ne (tgt := 26) X dX11_noTake_19 (by decide) (fun hc => ?_) (fun hc => ?_)
    · have h := ite_f h hc
      refine wp_aload_n X dX11_noTake_26 0 rfl ?_
      refine wp_iload_n X dX11_noTake_27 1 rfl ?_
      refine wp_iload_n X dX11_noTake_28 2 rfl ?_
      refine wp_iload_n X dX11_noTake_29 3 rfl ?_
      refine cv_Model_hasTake X dX11_noTake_30 ml_X11_168  h (Nat.le_of_ble_eq_true rfl) (by decide) (fun r30 I30 J30 h => ?_)
      refine wp_if_ne (tgt := 40) X dX11_noTake_33 (by decide) (fun hc => ?_) (fun hc => ?_)
      · have h := ite_f h hc
        refine wp_iconst X dX11_noTake_40 ic_0 ?_
        exact wp_iret X Y dX11_noTake_41 ⟨_, rfl, h⟩
      · have h := ite_t h hc
        refine wp_iconst X dX11_noTake_36 ic_2 ?_
        refine wp_goto (tgt := 41) X dX11_noTake_37 (by decide) ?_
        exact wp_iret X Y dX11_noTake_41 ⟨_, rfl, h⟩
    · have h := ite_t h hc
      refine wp_iconst X dX11_noTake_22 ic_1 ?_
      refine wp_goto (tgt := 41) X dX11_noTake_23 (by decide) ?_
      exact wp_iret X Y dX11_noTake_41 ⟨_, rfl, h⟩
  · have h := ite_t h hc
    refine wp_iconst X dX11_noTake_9 ic_2 ?_
    refine wp_goto (tgt := 41) X dX11_noTake_10 (by decide) ?_
    exact wp_iret X Y dX11_noTake_41 ⟨_, rfl, h⟩

theorem c_Model_noTake {l : Launch} {g : GE} (hg : Inj g) {I : MI} {J : MJ} {Q : Int32 → MI → MJ → Prop} {x1 : Int32} {x2 : Int32} {x3 : Int32}  (h : f_Model_noTake x1 x2 x3 I J Q) : Cm l g yX11_noTake cX11_noTake 4 (Option.some Jvm.ClassFile.FieldType.int) 1 [.ref (g.1 177), .int x1, .int x2, .int x3] I J (Pi Q) := by
  refine Cm.of (As := fun ad => [.ref (ad 177), .int x1, .int x2, .int x3]) hg pn_X11 (Nat.le_of_ble_eq_true rfl) ?_
  exact (fun Γ _ _ X Y => w_Model_noTake_b0 X Y  h)
theorem cv_Model_noTake {Γ : Ctx} {cc : ByteArray} {nL d pc index : Nat} {own : String} {L : List (Nat × Value)} {rest : List Value} {I : MI} {J : MJ} {Q : Int32 → MI → MJ → Prop} {x1 : Int32} {x2 : Int32} {x3 : Int32} (X : Cx Γ cc nL own d) (hd : decode cc pc = .ok (.invokevirtual index, 3)) (hlink : Cond.methodLink own index yX11_noTake ∈ TT)  (h : f_Model_noTake x1 x2 x3 I J Q) (hrest : (rest.map fun v => v.category).sum ≤ 8) (hdd : 1 + 1 ≤ d) (kk : ∀ (r : Int32) (I' : MI) (J' : MJ), Q r I' J' → Wp Γ nL (pc + 3) L (.int r :: rest) I' J') : Wp Γ nL pc L (.int x3 :: .int x2 :: .int x1 :: .ref (ad Γ 177) :: rest) I J :=
  wp_callV (As := [.int x1, .int x2, .int x3]) (rest := rest) (T := TX11) (N := 62) X hd hlink mv_X11_noTake sh_177 (by decide) rfl (c_Model_noTake X.inj  h) rfl rfl hrest hdd (fun v I' J' hv => by obtain ⟨r, rfl, hq⟩ := hv; exact kk r I' J' hq)
theorem dX11_take_0 : decode cX11_take 0 = .ok (.aload_n 0, 1) := by decide +kernel
theorem dX11_take_1 : decode cX11_take 1 = .ok (.iload_n 1, 1) := by decide +kernel
theorem dX11_take_2 : decode cX11_take 2 = .ok (.invokevirtual 222, 3) := by decide +kernel
theorem dX11_take_5 : decode cX11_take 5 = .ok (.ifCond .eq 13, 3) := by decide +kernel
theorem dX11_take_8 : decode cX11_take 8 = .ok (.aload_n 0, 1) := by decide +kernel
theorem dX11_take_9 : decode cX11_take 9 = .ok (.aload_n 0, 1) := by decide +kernel
theorem dX11_take_10 : decode cX11_take 10 = .ok (.iload_n 1, 1) := by decide +kernel
theorem dX11_take_11 : decode cX11_take 11 = .ok (.invokevirtual 222, 3) := by decide +kernel
theorem dX11_take_14 : decode cX11_take 14 = .ok (.invokevirtual 219, 3) := by decide +kernel
theorem dX11_take_17 : decode cX11_take 17 = .ok (.ireturn, 1) := by decide +kernel
theorem dX11_take_18 : decode cX11_take 18 = .ok (.aload_n 0, 1) := by decide +kernel
theorem dX11_take_19 : decode cX11_take 19 = .ok (.iload_n 1, 1) := by decide +kernel
theorem dX11_take_20 : decode cX11_take 20 = .ok (.iload_n 2, 1) := by decide +kernel
theorem dX11_take_21 : decode cX11_take 21 = .ok (.iload_n 3, 1) := by decide +kernel
theorem dX11_take_22 : decode cX11_take 22 = .ok (.invokevirtual 231, 3) := by decide +kernel
theorem dX11_take_25 : decode cX11_take 25 = .ok (.istore 5, 2) := by decide +kernel
theorem dX11_take_27 : decode cX11_take 27 = .ok (.iload 5, 2) := by decide +kernel
theorem dX11_take_29 : decode cX11_take 29 = .ok (.ifCond .eq 10, 3) := by decide +kernel
theorem dX11_take_32 : decode cX11_take 32 = .ok (.aload_n 0, 1) := by decide +kernel
theorem dX11_take_33 : decode cX11_take 33 = .ok (.iload 5, 2) := by decide +kernel
theorem dX11_take_35 : decode cX11_take 35 = .ok (.invokevirtual 219, 3) := by decide +kernel
theorem dX11_take_38 : decode cX11_take 38 = .ok (.ireturn, 1) := by decide +kernel
theorem dX11_take_39 : decode cX11_take 39 = .ok (.iload 4, 2) := by decide +kernel
theorem dX11_take_41 : decode cX11_take 41 = .ok (.iconst (-1), 1) := by decide +kernel
theorem dX11_take_42 : decode cX11_take 42 = .ok (.if_icmp .lt 14, 3) := by decide +kernel
theorem dX11_take_45 : decode cX11_take 45 = .ok (.iload 4, 2) := by decide +kernel
theorem dX11_take_47 : decode cX11_take 47 = .ok (.aload_n 0, 1) := by decide +kernel
theorem dX11_take_48 : decode cX11_take 48 = .ok (.getfield 33, 3) := by decide +kernel
theorem dX11_take_51 : decode cX11_take 51 = .ok (.iload_n 1, 1) := by decide +kernel
theorem dX11_take_52 : decode cX11_take 52 = .ok (.iaload, 1) := by decide +kernel
theorem dX11_take_53 : decode cX11_take 53 = .ok (.if_icmp .lt 9, 3) := by decide +kernel
theorem dX11_take_56 : decode cX11_take 56 = .ok (.aload_n 0, 1) := by decide +kernel
theorem dX11_take_57 : decode cX11_take 57 = .ok (.iconst 2, 1) := by decide +kernel
theorem dX11_take_58 : decode cX11_take 58 = .ok (.invokevirtual 219, 3) := by decide +kernel
theorem dX11_take_61 : decode cX11_take 61 = .ok (.ireturn, 1) := by decide +kernel
theorem dX11_take_62 : decode cX11_take 62 = .ok (.iload 4, 2) := by decide +kernel
theorem dX11_take_64 : decode cX11_take 64 = .ok (.iconst (-1), 1) := by decide +kernel
theorem dX11_take_65 : decode cX11_take 65 = .ok (.if_icmp .ne 19, 3) := by decide +kernel
theorem dX11_take_68 : decode cX11_take 68 = .ok (.aload_n 0, 1) := by decide +kernel
theorem dX11_take_69 : decode cX11_take 69 = .ok (.getfield 7, 3) := by decide +kernel
theorem dX11_take_72 : decode cX11_take 72 = .ok (.iload_n 1, 1) := by decide +kernel
theorem dX11_take_73 : decode cX11_take 73 = .ok (.iaload, 1) := by decide +kernel
theorem dX11_take_74 : decode cX11_take 74 = .ok (.iconst 2, 1) := by decide +kernel
theorem dX11_take_75 : decode cX11_take 75 = .ok (.if_icmp .ge 9, 3) := by decide +kernel
theorem dX11_take_78 : decode cX11_take 78 = .ok (.aload_n 0, 1) := by decide +kernel
theorem dX11_take_79 : decode cX11_take 79 = .ok (.iconst 4, 1) := by decide +kernel
theorem dX11_take_80 : decode cX11_take 80 = .ok (.invokevirtual 219, 3) := by decide +kernel
theorem dX11_take_83 : decode cX11_take 83 = .ok (.ireturn, 1) := by decide +kernel
theorem dX11_take_84 : decode cX11_take 84 = .ok (.aload_n 0, 1) := by decide +kernel
theorem dX11_take_85 : decode cX11_take 85 = .ok (.getfield 45, 3) := by decide +kernel
theorem dX11_take_88 : decode cX11_take 88 = .ok (.iload_n 1, 1) := by decide +kernel
theorem dX11_take_89 : decode cX11_take 89 = .ok (.iload_n 2, 1) := by decide +kernel
theorem dX11_take_90 : decode cX11_take 90 = .ok (.iload_n 3, 1) := by decide +kernel
theorem dX11_take_91 : decode cX11_take 91 = .ok (.invokestatic 149, 3) := by decide +kernel
theorem dX11_take_94 : decode cX11_take 94 = .ok (.iload 4, 2) := by decide +kernel
theorem dX11_take_96 : decode cX11_take 96 = .ok (.iastore, 1) := by decide +kernel
theorem dX11_take_97 : decode cX11_take 97 = .ok (.aload_n 0, 1) := by decide +kernel
theorem dX11_take_98 : decode cX11_take 98 = .ok (.iconst 0, 1) := by decide +kernel
theorem dX11_take_99 : decode cX11_take 99 = .ok (.invokevirtual 157, 3) := by decide +kernel
theorem dX11_take_102 : decode cX11_take 102 = .ok (.ireturn, 1) := by decide +kernel
def f_Model_take_b84 (x1 : Int32) (x2 : Int32) (x3 : Int32) (x4 : Int32) (Q : Int32 → MI → MJ → Prop) (I : MI) (J : MJ) : Prop :=
  f_Model_spot x1 x2 x3 I J (fun r91 I91 J91 => vp_in r91 1120 ∧ ∀ I96 : MI, I96 = sI I91 189 (upd (I91 189) r91.toNatClampNeg x4) → f_Model_done (0 : Int32) I96 J91 (fun r99 I99 J99 => Q r99 I99 J99))
def f_Model_take_b56  (Q : Int32 → MI → MJ → Prop) (I : MI) (J : MJ) : Prop :=
  f_Model_refuse (2 : Int32) I J (fun r58 I58 J58 => Q r58 I58 J58)
def f_Model_take (x1 : Int32) (x2 : Int32) (x3 : Int32) (x4 : Int32) (I : MI) (J : MJ) (Q : Int32 → MI → MJ → Prop) : Prop :=
  f_Model_noMachine x1 I J (fun r2 I2 J2 => (if r2 = 0 then f_Model_noTake x1 x2 x3 I2 J2 (fun r22 I22 J22 => (if r22 = 0 then (if x4 < (-1) then f_Model_take_b56 Q I22 J22 else vp_in x1 20 ∧ (if x4 < (I22 185 x1.toNatClampNeg) then (if x4 = (-1) then vp_in x1 16 ∧ (if 2 ≤ (I22 178 x1.toNatClampNeg) then f_Model_take_b84 x1 x2 x3 x4 Q I22 J22 else f_Model_refuse (4 : Int32) I22 J22 (fun r80 I80 J80 => Q r80 I80 J80)) else f_Model_take_b84 x1 x2 x3 x4 Q I22 J22) else f_Model_take_b56 Q I22 J22)) else f_Model_refuse r22 I22 J22 (fun r35 I35 J35 => Q r35 I35 J35))) else f_Model_noMachine x1 I2 J2 (fun r11 I11 J11 => f_Model_refuse r11 I11 J11 (fun r14 I14 J14 => Q r14 I14 J14))))
set_option maxRecDepth 100000 in
set_option maxHeartbeats 4000000 in
theorem w_Model_take_b84 {Γ : Ctx} {Q : Int32 → MI → MJ → Prop} {x1 : Int32} {x2 : Int32} {x3 : Int32} {x4 : Int32}  (X : Cx Γ cX11_take 6 RX11 2) (Y : Rt Γ (Pi Q) (Option.some Jvm.ClassFile.FieldType.int))   {I : MI} {J : MJ} (h : f_Model_take_b84 x1 x2 x3 x4 Q I J) : Wp Γ 6 84 [(0, .ref (ad Γ 177)), (1, .int x1), (2, .int x2), (3, .int x3), (4, .int x4)] [] I J := by
  unfold f_Model_take_b84 at h
  refine wp_aload_n X dX11_take_84 0 rfl ?_
  refine gf_X11_45 (o' := 189) X sh_177 rfl dX11_take_85 ?_
  refine wp_iload_n X dX11_take_88 1 rfl ?_
  refine wp_iload_n X dX11_take_89 2 rfl ?_
  refine wp_iload_n X dX11_take_90 3 rfl ?_
  refine cs_Model_spot X dX11_take_91 ml_X11_149  h (Nat.le_of_ble_eq_true rfl) (by decide) (fun r91 I91 J91 h => ?_)
  refine wp_iload X dX11_take_94 4 rfl ?_
  obtain ⟨hb96, h⟩ := h
  refine wp_iast X sh_189 hb96 dX11_take_96 ?_
  refine wp_memI (fun I96 eI96 => ?_)
  have h := h I96 eI96
  refine wp_aload_n X dX11_take_97 0 rfl ?_
  refine wp_iconst X dX11_take_98 ic_0 ?_
  refine cv_Model_done X dX11_take_99 ml_X11_157  h (Nat.le_of_ble_eq_true rfl) (by decide) (fun r99 I99 J99 h => ?_)
  exact wp_iret X Y dX11_take_102 ⟨_, rfl, h⟩

set_option maxRecDepth 100000 in
set_option maxHeartbeats 4000000 in
theorem w_Model_take_b56 {Γ : Ctx} {Q : Int32 → MI → MJ → Prop}   (X : Cx Γ cX11_take 6 RX11 2) (Y : Rt Γ (Pi Q) (Option.some Jvm.ClassFile.FieldType.int))   {I : MI} {J : MJ} (h : f_Model_take_b56 Q I J) : Wp Γ 6 56 [(0, .ref (ad Γ 177))] [] I J := by
  unfold f_Model_take_b56 at h
  refine wp_aload_n X dX11_take_56 0 rfl ?_
  refine wp_iconst X dX11_take_57 ic_2 ?_
  refine cv_Model_refuse X dX11_take_58 ml_X11_219  h (Nat.le_of_ble_eq_true rfl) (by decide) (fun r58 I58 J58 h => ?_)
  exact wp_iret X Y dX11_take_61 ⟨_, rfl, h⟩

set_option maxRecDepth 100000 in
set_option maxHeartbeats 4000000 in
theorem w_Model_take_b0 {Γ : Ctx} {Q : Int32 → MI → MJ → Prop} {x1 : Int32} {x2 : Int32} {x3 : Int32} {x4 : Int32}  (X : Cx Γ cX11_take 6 RX11 2) (Y : Rt Γ (Pi Q) (Option.some Jvm.ClassFile.FieldType.int))   {I : MI} {J : MJ} (h : f_Model_take x1 x2 x3 x4 I J Q) : Wp Γ 6 0 [(0, .ref (ad Γ 177)), (1, .int x1), (2, .int x2), (3, .int x3), (4, .int x4)] [] I J := by
  unfold f_Model_take at h
  refine wp_aload_n X dX11_take_0 0 rfl ?_
  refine wp_iload_n X dX11_take_1 1 rfl ?_
  refine cv_Model_noMachine X dX11_take_2 ml_X11_222  h (Nat.le_of_ble_eq_true rfl) (by decide) (fun r2 I2 J2 h => ?_)
  refine wp_if_eq (tgt := 18) X dX11_take_5 (by decide) (fun hc => ?_) (fun hc => ?_)
  · have h := ite_t h hc
    refine wp_aload_n X dX11_take_18 0 rfl ?_
    refine wp_iload_n X dX11_take_19 1 rfl ?_
    refine wp_iload_n X dX11_take_20 2 rfl ?_
    refine wp_iload_n X dX11_take_21 3 rfl ?_
    refine cv_Model_noTake X dX11_take_22 ml_X11_231  h (Nat.le_of_ble_eq_true rfl) (by decide) (fun r22 I22 J22 h => ?_)
    refine wp_istore (L' := [(5, .int r22), (0, .ref (ad Γ 177)), (1, .int x1), (2, .int x2), (3, .int x3), (4, .int x4)]) X dX11_take_25 (by decide) rfl ?_
    refine wp_iload X dX11_take_27 0 rfl ?_
    refine wp_if_eq (tgt := 39) X dX11_take_29 (by decide) (fun hc => ?_) (fun hc => ?_)
    · have h := ite_t h hc
      refine wp_iload X dX11_take_39 5 rfl ?_
      refine wp_iconst X dX11_take_41 ic_m1 ?_
      refine wp_icmp_lt (tgt := 56) X dX11_take_42 (by decide) (fun hc => ?_) (fun hc => ?_)
      · have h := ite_t h hc
        refine wp_sub X [1] rfl ?_
        exact w_Model_take_b56 X Y  h
      · have h := ite_f h hc
        refine wp_iload X dX11_take_45 5 rfl ?_
        refine wp_aload_n X dX11_take_47 1 rfl ?_
        refine gf_X11_33 (o' := 185) X sh_177 rfl dX11_take_48 ?_
        refine wp_iload_n X dX11_take_51 2 rfl ?_
        obtain ⟨hb52, h⟩ := h
        refine wp_iald X sh_185 hb52 dX11_take_52 ?_
        refine wp_icmp_lt (tgt := 62) X dX11_take_53 (by decide) (fun hc => ?_) (fun hc => ?_)
        · have h := ite_t h hc
          refine wp_iload X dX11_take_62 5 rfl ?_
          refine wp_iconst X dX11_take_64 ic_m1 ?_
          refine wp_icmp_ne (tgt := 84) X dX11_take_65 (by decide) (fun hc => ?_) (fun hc => ?_)
          · have h := ite_f h hc
            refine wp_sub X [1, 2, 3, 4, 5] rfl ?_
            exact w_Model_take_b84 X Y  h
          · have h := ite_t h hc
            refine wp_aload_n X dX11_take_68 1 rfl ?_
            refine gf_X11_7 (o' := 178) X sh_177 rfl dX11_take_69 ?_
            refine wp_iload_n X dX11_take_72 2 rfl ?_
            obtain ⟨hb73, h⟩ := h
            refine wp_iald X sh_178 hb73 dX11_take_73 ?_
            refine wp_iconst X dX11_take_74 ic_2 ?_
            refine wp_icmp_ge (tgt := 84) X dX11_take_75 (by decide) (fun hc => ?_) (fun hc => ?_)
            · have h := ite_t h hc
              refine wp_sub X [1, 2, 3, 4, 5] rfl ?_
              exact w_Model_take_b84 X Y  h
            · have h := ite_f h hc
              refine wp_aload_n X dX11_take_78 1 rfl ?_
              refine wp_iconst X dX11_take_79 ic_4 ?_
              refine cv_Model_refuse X dX11_take_80 ml_X11_219  h (Nat.le_of_ble_eq_true rfl) (by decide) (fun r80 I80 J80 h => ?_)
              exact wp_iret X Y dX11_take_83 ⟨_, rfl, h⟩
        · have h := ite_f h hc
          refine wp_sub X [1] rfl ?_
          exact w_Model_take_b56 X Y  h
    · have h := ite_f h hc
      refine wp_aload_n X dX11_take_32 1 rfl ?_
      refine wp_iload X dX11_take_33 0 rfl ?_
      refine cv_Model_refuse X dX11_take_35 ml_X11_219  h (Nat.le_of_ble_eq_true rfl) (by decide) (fun r35 I35 J35 h => ?_)
      exact wp_iret X Y dX11_take_38 ⟨_, rfl, h⟩
  · have h := ite_f h hc
    refine wp_aload_n X dX11_take_8 0 rfl ?_
    refine wp_aload_n X dX11_take_9 0 rfl ?_
    refine wp_iload_n X dX11_take_10 1 rfl ?_
    refine cv_Model_noMachine X dX11_take_11 ml_X11_222  h (Nat.le_of_ble_eq_true rfl) (by decide) (fun r11 I11 J11 h => ?_)
    refine cv_Model_refuse X dX11_take_14 ml_X11_219  h (Nat.le_of_ble_eq_true rfl) (by decide) (fun r14 I14 J14 h => ?_)
    exact wp_iret X Y dX11_take_17 ⟨_, rfl, h⟩

theorem c_Model_take {l : Launch} {g : GE} (hg : Inj g) {I : MI} {J : MJ} {Q : Int32 → MI → MJ → Prop} {x1 : Int32} {x2 : Int32} {x3 : Int32} {x4 : Int32}  (h : f_Model_take x1 x2 x3 x4 I J Q) : Cm l g yX11_take cX11_take 6 (Option.some Jvm.ClassFile.FieldType.int) 2 [.ref (g.1 177), .int x1, .int x2, .int x3, .int x4] I J (Pi Q) := by
  refine Cm.of (As := fun ad => [.ref (ad 177), .int x1, .int x2, .int x3, .int x4]) hg pn_X11 (Nat.le_of_ble_eq_true rfl) ?_
  exact (fun Γ _ _ X Y => w_Model_take_b0 X Y  h)
theorem cv_Model_take {Γ : Ctx} {cc : ByteArray} {nL d pc index : Nat} {own : String} {L : List (Nat × Value)} {rest : List Value} {I : MI} {J : MJ} {Q : Int32 → MI → MJ → Prop} {x1 : Int32} {x2 : Int32} {x3 : Int32} {x4 : Int32} (X : Cx Γ cc nL own d) (hd : decode cc pc = .ok (.invokevirtual index, 3)) (hlink : Cond.methodLink own index yX11_take ∈ TT)  (h : f_Model_take x1 x2 x3 x4 I J Q) (hrest : (rest.map fun v => v.category).sum ≤ 8) (hdd : 2 + 1 ≤ d) (kk : ∀ (r : Int32) (I' : MI) (J' : MJ), Q r I' J' → Wp Γ nL (pc + 3) L (.int r :: rest) I' J') : Wp Γ nL pc L (.int x4 :: .int x3 :: .int x2 :: .int x1 :: .ref (ad Γ 177) :: rest) I J :=
  wp_callV (As := [.int x1, .int x2, .int x3, .int x4]) (rest := rest) (T := TX11) (N := 62) X hd hlink mv_X11_take sh_177 (by decide) rfl (c_Model_take X.inj  h) rfl rfl hrest hdd (fun v I' J' hv => by obtain ⟨r, rfl, hq⟩ := hv; exact kk r I' J' hq)
theorem dX11_say_0 : decode cX11_say 0 = .ok (.aload_n 0, 1) := by decide +kernel
theorem dX11_say_1 : decode cX11_say 1 = .ok (.iload_n 1, 1) := by decide +kernel
theorem dX11_say_2 : decode cX11_say 2 = .ok (.invokevirtual 222, 3) := by decide +kernel
theorem dX11_say_5 : decode cX11_say 5 = .ok (.ifCond .eq 13, 3) := by decide +kernel
theorem dX11_say_8 : decode cX11_say 8 = .ok (.aload_n 0, 1) := by decide +kernel
theorem dX11_say_9 : decode cX11_say 9 = .ok (.aload_n 0, 1) := by decide +kernel
theorem dX11_say_10 : decode cX11_say 10 = .ok (.iload_n 1, 1) := by decide +kernel
theorem dX11_say_11 : decode cX11_say 11 = .ok (.invokevirtual 222, 3) := by decide +kernel
theorem dX11_say_14 : decode cX11_say 14 = .ok (.invokevirtual 219, 3) := by decide +kernel
theorem dX11_say_17 : decode cX11_say 17 = .ok (.ireturn, 1) := by decide +kernel
theorem dX11_say_18 : decode cX11_say 18 = .ok (.aload_n 0, 1) := by decide +kernel
theorem dX11_say_19 : decode cX11_say 19 = .ok (.iload_n 1, 1) := by decide +kernel
theorem dX11_say_20 : decode cX11_say 20 = .ok (.iload_n 2, 1) := by decide +kernel
theorem dX11_say_21 : decode cX11_say 21 = .ok (.invokevirtual 225, 3) := by decide +kernel
theorem dX11_say_24 : decode cX11_say 24 = .ok (.ifCond .eq 26, 3) := by decide +kernel
theorem dX11_say_27 : decode cX11_say 27 = .ok (.iload_n 3, 1) := by decide +kernel
theorem dX11_say_28 : decode cX11_say 28 = .ok (.ifCond .lt 22, 3) := by decide +kernel
theorem dX11_say_31 : decode cX11_say 31 = .ok (.iload_n 3, 1) := by decide +kernel
theorem dX11_say_32 : decode cX11_say 32 = .ok (.aload_n 0, 1) := by decide +kernel
theorem dX11_say_33 : decode cX11_say 33 = .ok (.getfield 7, 3) := by decide +kernel
theorem dX11_say_36 : decode cX11_say 36 = .ok (.iload_n 1, 1) := by decide +kernel
theorem dX11_say_37 : decode cX11_say 37 = .ok (.iaload, 1) := by decide +kernel
theorem dX11_say_38 : decode cX11_say 38 = .ok (.ifCond .ne 7, 3) := by decide +kernel
theorem dX11_say_41 : decode cX11_say 41 = .ok (.iconst 1, 1) := by decide +kernel
theorem dX11_say_42 : decode cX11_say 42 = .ok (.goto 5, 3) := by decide +kernel
theorem dX11_say_45 : decode cX11_say 45 = .ok (.bipush 7, 2) := by decide +kernel
theorem dX11_say_47 : decode cX11_say 47 = .ok (.if_icmp .le 9, 3) := by decide +kernel
theorem dX11_say_50 : decode cX11_say 50 = .ok (.aload_n 0, 1) := by decide +kernel
theorem dX11_say_51 : decode cX11_say 51 = .ok (.iconst 2, 1) := by decide +kernel
theorem dX11_say_52 : decode cX11_say 52 = .ok (.invokevirtual 219, 3) := by decide +kernel
theorem dX11_say_55 : decode cX11_say 55 = .ok (.ireturn, 1) := by decide +kernel
theorem dX11_say_56 : decode cX11_say 56 = .ok (.aload_n 0, 1) := by decide +kernel
theorem dX11_say_57 : decode cX11_say 57 = .ok (.getfield 39, 3) := by decide +kernel
theorem dX11_say_60 : decode cX11_say 60 = .ok (.bipush 14, 2) := by decide +kernel
theorem dX11_say_62 : decode cX11_say 62 = .ok (.iload_n 1, 1) := by decide +kernel
theorem dX11_say_63 : decode cX11_say 63 = .ok (.imul, 1) := by decide +kernel
theorem dX11_say_64 : decode cX11_say 64 = .ok (.iload_n 2, 1) := by decide +kernel
theorem dX11_say_65 : decode cX11_say 65 = .ok (.iadd, 1) := by decide +kernel
theorem dX11_say_66 : decode cX11_say 66 = .ok (.iload_n 3, 1) := by decide +kernel
theorem dX11_say_67 : decode cX11_say 67 = .ok (.iastore, 1) := by decide +kernel
theorem dX11_say_68 : decode cX11_say 68 = .ok (.aload_n 0, 1) := by decide +kernel
theorem dX11_say_69 : decode cX11_say 69 = .ok (.iconst 0, 1) := by decide +kernel
theorem dX11_say_70 : decode cX11_say 70 = .ok (.invokevirtual 157, 3) := by decide +kernel
theorem dX11_say_73 : decode cX11_say 73 = .ok (.ireturn, 1) := by decide +kernel
def f_Model_say_b50  (Q : Int32 → MI → MJ → Prop) (I : MI) (J : MJ) : Prop :=
  f_Model_refuse (2 : Int32) I J (fun r52 I52 J52 => Q r52 I52 J52)
def f_Model_say_b47 (x1 : Int32) (x2 : Int32) (x3 : Int32) (s0 : Int32) (s1 : Int32) (Q : Int32 → MI → MJ → Prop) (I : MI) (J : MJ) : Prop :=
  (if s0 ≤ s1 then vp_in ((14 * x1) + x2) 280 ∧ ∀ I67 : MI, I67 = sI I 187 (upd (I 187) ((14 * x1) + x2).toNatClampNeg x3) → f_Model_done (0 : Int32) I67 J (fun r70 I70 J70 => Q r70 I70 J70) else f_Model_say_b50 Q I J)
def f_Model_say (x1 : Int32) (x2 : Int32) (x3 : Int32) (I : MI) (J : MJ) (Q : Int32 → MI → MJ → Prop) : Prop :=
  f_Model_noMachine x1 I J (fun r2 I2 J2 => (if r2 = 0 then f_Model_isState x1 x2 I2 J2 (fun r21 I21 J21 => (if r21 = 0 then f_Model_say_b50 Q I21 J21 else (if x3 < 0 then f_Model_say_b50 Q I21 J21 else vp_in x1 16 ∧ (if (I21 178 x1.toNatClampNeg) = 0 then f_Model_say_b47 x1 x2 x3 x3 1 Q I21 J21 else f_Model_say_b47 x1 x2 x3 x3 7 Q I21 J21)))) else f_Model_noMachine x1 I2 J2 (fun r11 I11 J11 => f_Model_refuse r11 I11 J11 (fun r14 I14 J14 => Q r14 I14 J14))))
set_option maxRecDepth 100000 in
set_option maxHeartbeats 4000000 in
theorem w_Model_say_b50 {Γ : Ctx} {Q : Int32 → MI → MJ → Prop}   (X : Cx Γ cX11_say 4 RX11 2) (Y : Rt Γ (Pi Q) (Option.some Jvm.ClassFile.FieldType.int))   {I : MI} {J : MJ} (h : f_Model_say_b50 Q I J) : Wp Γ 4 50 [(0, .ref (ad Γ 177))] [] I J := by
  unfold f_Model_say_b50 at h
  refine wp_aload_n X dX11_say_50 0 rfl ?_
  refine wp_iconst X dX11_say_51 ic_2 ?_
  refine cv_Model_refuse X dX11_say_52 ml_X11_219  h (Nat.le_of_ble_eq_true rfl) (by decide) (fun r52 I52 J52 h => ?_)
  exact wp_iret X Y dX11_say_55 ⟨_, rfl, h⟩

set_option maxRecDepth 100000 in
set_option maxHeartbeats 4000000 in
theorem w_Model_say_b47 {Γ : Ctx} {Q : Int32 → MI → MJ → Prop} {x1 : Int32} {x2 : Int32} {x3 : Int32} {s0 : Int32} {s1 : Int32}  (X : Cx Γ cX11_say 4 RX11 2) (Y : Rt Γ (Pi Q) (Option.some Jvm.ClassFile.FieldType.int))   {I : MI} {J : MJ} (h : f_Model_say_b47 x1 x2 x3 s0 s1 Q I J) : Wp Γ 4 47 [(0, .ref (ad Γ 177)), (1, .int x1), (2, .int x2), (3, .int x3)] [.int s1, .int s0] I J := by
  unfold f_Model_say_b47 at h
  refine wp_icmp_le (tgt := 56) X dX11_say_47 (by decide) (fun hc => ?_) (fun hc => ?_)
  · have h := ite_t h hc
    refine wp_aload_n X dX11_say_56 0 rfl ?_
    refine gf_X11_39 (o' := 187) X sh_177 rfl dX11_say_57 ?_
    refine wp_bipush X dX11_say_60 bi_14 ?_
    refine wp_iload_n X dX11_say_62 1 rfl ?_
    refine wp_imul X dX11_say_63 ?_
    refine wp_iload_n X dX11_say_64 2 rfl ?_
    refine wp_iadd X dX11_say_65 ?_
    refine wp_iload_n X dX11_say_66 3 rfl ?_
    obtain ⟨hb67, h⟩ := h
    refine wp_iast X sh_187 hb67 dX11_say_67 ?_
    refine wp_memI (fun I67 eI67 => ?_)
    have h := h I67 eI67
    refine wp_aload_n X dX11_say_68 0 rfl ?_
    refine wp_iconst X dX11_say_69 ic_0 ?_
    refine cv_Model_done X dX11_say_70 ml_X11_157  h (Nat.le_of_ble_eq_true rfl) (by decide) (fun r70 I70 J70 h => ?_)
    exact wp_iret X Y dX11_say_73 ⟨_, rfl, h⟩
  · have h := ite_f h hc
    refine wp_sub X [0] rfl ?_
    exact w_Model_say_b50 X Y  h

set_option maxRecDepth 100000 in
set_option maxHeartbeats 4000000 in
theorem w_Model_say_b0 {Γ : Ctx} {Q : Int32 → MI → MJ → Prop} {x1 : Int32} {x2 : Int32} {x3 : Int32}  (X : Cx Γ cX11_say 4 RX11 2) (Y : Rt Γ (Pi Q) (Option.some Jvm.ClassFile.FieldType.int))   {I : MI} {J : MJ} (h : f_Model_say x1 x2 x3 I J Q) : Wp Γ 4 0 [(0, .ref (ad Γ 177)), (1, .int x1), (2, .int x2), (3, .int x3)] [] I J := by
  unfold f_Model_say at h
  refine wp_aload_n X dX11_say_0 0 rfl ?_
  refine wp_iload_n X dX11_say_1 1 rfl ?_
  refine cv_Model_noMachine X dX11_say_2 ml_X11_222  h (Nat.le_of_ble_eq_true rfl) (by decide) (fun r2 I2 J2 h => ?_)
  refine wp_if_eq (tgt := 18) X dX11_say_5 (by decide) (fun hc => ?_) (fun hc => ?_)
  · have h := ite_t h hc
    refine wp_aload_n X dX11_say_18 0 rfl ?_
    refine wp_iload_n X dX11_say_19 1 rfl ?_
    refine wp_iload_n X dX11_say_20 2 rfl ?_
    refine cv_Model_isState X dX11_say_21 ml_X11_225  h (Nat.le_of_ble_eq_true rfl) (by decide) (fun r21 I21 J21 h => ?_)
    refine wp_if_eq (tgt := 50) X dX11_say_24 (by decide) (fun hc => ?_) (fun hc => ?_)
    · have h := ite_t h hc
      refine wp_sub X [0] rfl ?_
      exact w_Model_say_b50 X Y  h
    · have h := ite_f h hc
      refine wp_iload_n X dX11_say_27 3 rfl ?_
      refine wp_if_lt (tgt := 50) X dX11_say_28 (by decide) (fun hc => ?_) (fun hc => ?_)
      · have h := ite_t h hc
        refine wp_sub X [0] rfl ?_
        exact w_Model_say_b50 X Y  h
      · have h := ite_f h hc
        refine wp_iload_n X dX11_say_31 3 rfl ?_
        refine wp_aload_n X dX11_say_32 0 rfl ?_
        refine gf_X11_7 (o' := 178) X sh_177 rfl dX11_say_33 ?_
        refine wp_iload_n X dX11_say_36 1 rfl ?_
        obtain ⟨hb37, h⟩ := h
        refine wp_iald X sh_178 hb37 dX11_say_37 ?_
        refine wp_if_ne (tgt := 45) X dX11_say_38 (by decide) (fun hc => ?_) (fun hc => ?_)
        · have h := ite_f h hc
          refine wp_bipush X dX11_say_45 bi_7 ?_
          exact w_Model_say_b47 X Y  h
        · have h := ite_t h hc
          refine wp_iconst X dX11_say_41 ic_1 ?_
          refine wp_goto (tgt := 47) X dX11_say_42 (by decide) ?_
          exact w_Model_say_b47 X Y  h
  · have h := ite_f h hc
    refine wp_aload_n X dX11_say_8 0 rfl ?_
    refine wp_aload_n X dX11_say_9 0 rfl ?_
    refine wp_iload_n X dX11_say_10 1 rfl ?_
    refine cv_Model_noMachine X dX11_say_11 ml_X11_222  h (Nat.le_of_ble_eq_true rfl) (by decide) (fun r11 I11 J11 h => ?_)
    refine cv_Model_refuse X dX11_say_14 ml_X11_219  h (Nat.le_of_ble_eq_true rfl) (by decide) (fun r14 I14 J14 h => ?_)
    exact wp_iret X Y dX11_say_17 ⟨_, rfl, h⟩

theorem c_Model_say {l : Launch} {g : GE} (hg : Inj g) {I : MI} {J : MJ} {Q : Int32 → MI → MJ → Prop} {x1 : Int32} {x2 : Int32} {x3 : Int32}  (h : f_Model_say x1 x2 x3 I J Q) : Cm l g yX11_say cX11_say 4 (Option.some Jvm.ClassFile.FieldType.int) 2 [.ref (g.1 177), .int x1, .int x2, .int x3] I J (Pi Q) := by
  refine Cm.of (As := fun ad => [.ref (ad 177), .int x1, .int x2, .int x3]) hg pn_X11 (Nat.le_of_ble_eq_true rfl) ?_
  exact (fun Γ _ _ X Y => w_Model_say_b0 X Y  h)
theorem cv_Model_say {Γ : Ctx} {cc : ByteArray} {nL d pc index : Nat} {own : String} {L : List (Nat × Value)} {rest : List Value} {I : MI} {J : MJ} {Q : Int32 → MI → MJ → Prop} {x1 : Int32} {x2 : Int32} {x3 : Int32} (X : Cx Γ cc nL own d) (hd : decode cc pc = .ok (.invokevirtual index, 3)) (hlink : Cond.methodLink own index yX11_say ∈ TT)  (h : f_Model_say x1 x2 x3 I J Q) (hrest : (rest.map fun v => v.category).sum ≤ 8) (hdd : 2 + 1 ≤ d) (kk : ∀ (r : Int32) (I' : MI) (J' : MJ), Q r I' J' → Wp Γ nL (pc + 3) L (.int r :: rest) I' J') : Wp Γ nL pc L (.int x3 :: .int x2 :: .int x1 :: .ref (ad Γ 177) :: rest) I J :=
  wp_callV (As := [.int x1, .int x2, .int x3]) (rest := rest) (T := TX11) (N := 62) X hd hlink mv_X11_say sh_177 (by decide) rfl (c_Model_say X.inj  h) rfl rfl hrest hdd (fun v I' J' hv => by obtain ⟨r, rfl, hq⟩ := hv; exact kk r I' J' hq)
theorem dX11_act_0 : decode cX11_act 0 = .ok (.aload_n 0, 1) := by decide +kernel
theorem dX11_act_1 : decode cX11_act 1 = .ok (.iload_n 1, 1) := by decide +kernel
theorem dX11_act_2 : decode cX11_act 2 = .ok (.invokevirtual 222, 3) := by decide +kernel
theorem dX11_act_5 : decode cX11_act 5 = .ok (.ifCond .eq 13, 3) := by decide +kernel
theorem dX11_act_8 : decode cX11_act 8 = .ok (.aload_n 0, 1) := by decide +kernel
theorem dX11_act_9 : decode cX11_act 9 = .ok (.aload_n 0, 1) := by decide +kernel
theorem dX11_act_10 : decode cX11_act 10 = .ok (.iload_n 1, 1) := by decide +kernel
theorem dX11_act_11 : decode cX11_act 11 = .ok (.invokevirtual 222, 3) := by decide +kernel
theorem dX11_act_14 : decode cX11_act 14 = .ok (.invokevirtual 219, 3) := by decide +kernel
theorem dX11_act_17 : decode cX11_act 17 = .ok (.ireturn, 1) := by decide +kernel
theorem dX11_act_18 : decode cX11_act 18 = .ok (.aload_n 0, 1) := by decide +kernel
theorem dX11_act_19 : decode cX11_act 19 = .ok (.getfield 7, 3) := by decide +kernel
theorem dX11_act_22 : decode cX11_act 22 = .ok (.iload_n 1, 1) := by decide +kernel
theorem dX11_act_23 : decode cX11_act 23 = .ok (.iaload, 1) := by decide +kernel
theorem dX11_act_24 : decode cX11_act 24 = .ok (.iconst 3, 1) := by decide +kernel
theorem dX11_act_25 : decode cX11_act 25 = .ok (.if_icmp .eq 9, 3) := by decide +kernel
theorem dX11_act_28 : decode cX11_act 28 = .ok (.aload_n 0, 1) := by decide +kernel
theorem dX11_act_29 : decode cX11_act 29 = .ok (.iconst 4, 1) := by decide +kernel
theorem dX11_act_30 : decode cX11_act 30 = .ok (.invokevirtual 219, 3) := by decide +kernel
theorem dX11_act_33 : decode cX11_act 33 = .ok (.ireturn, 1) := by decide +kernel
theorem dX11_act_34 : decode cX11_act 34 = .ok (.aload_n 0, 1) := by decide +kernel
theorem dX11_act_35 : decode cX11_act 35 = .ok (.iload_n 1, 1) := by decide +kernel
theorem dX11_act_36 : decode cX11_act 36 = .ok (.iload_n 2, 1) := by decide +kernel
theorem dX11_act_37 : decode cX11_act 37 = .ok (.iload_n 3, 1) := by decide +kernel
theorem dX11_act_38 : decode cX11_act 38 = .ok (.invokevirtual 231, 3) := by decide +kernel
theorem dX11_act_41 : decode cX11_act 41 = .ok (.istore 5, 2) := by decide +kernel
theorem dX11_act_43 : decode cX11_act 43 = .ok (.iload 5, 2) := by decide +kernel
theorem dX11_act_45 : decode cX11_act 45 = .ok (.ifCond .eq 10, 3) := by decide +kernel
theorem dX11_act_48 : decode cX11_act 48 = .ok (.aload_n 0, 1) := by decide +kernel
theorem dX11_act_49 : decode cX11_act 49 = .ok (.iload 5, 2) := by decide +kernel
theorem dX11_act_51 : decode cX11_act 51 = .ok (.invokevirtual 219, 3) := by decide +kernel
theorem dX11_act_54 : decode cX11_act 54 = .ok (.ireturn, 1) := by decide +kernel
theorem dX11_act_55 : decode cX11_act 55 = .ok (.iload 4, 2) := by decide +kernel
theorem dX11_act_57 : decode cX11_act 57 = .ok (.ifCond .lt 9, 3) := by decide +kernel
theorem dX11_act_60 : decode cX11_act 60 = .ok (.iload 4, 2) := by decide +kernel
theorem dX11_act_62 : decode cX11_act 62 = .ok (.iconst 3, 1) := by decide +kernel
theorem dX11_act_63 : decode cX11_act 63 = .ok (.if_icmp .le 9, 3) := by decide +kernel
theorem dX11_act_66 : decode cX11_act 66 = .ok (.aload_n 0, 1) := by decide +kernel
theorem dX11_act_67 : decode cX11_act 67 = .ok (.iconst 2, 1) := by decide +kernel
theorem dX11_act_68 : decode cX11_act 68 = .ok (.invokevirtual 219, 3) := by decide +kernel
theorem dX11_act_71 : decode cX11_act 71 = .ok (.ireturn, 1) := by decide +kernel
theorem dX11_act_72 : decode cX11_act 72 = .ok (.aload_n 0, 1) := by decide +kernel
theorem dX11_act_73 : decode cX11_act 73 = .ok (.getfield 48, 3) := by decide +kernel
theorem dX11_act_76 : decode cX11_act 76 = .ok (.iload_n 1, 1) := by decide +kernel
theorem dX11_act_77 : decode cX11_act 77 = .ok (.iload_n 2, 1) := by decide +kernel
theorem dX11_act_78 : decode cX11_act 78 = .ok (.iload_n 3, 1) := by decide +kernel
theorem dX11_act_79 : decode cX11_act 79 = .ok (.invokestatic 149, 3) := by decide +kernel
theorem dX11_act_82 : decode cX11_act 82 = .ok (.iload 4, 2) := by decide +kernel
theorem dX11_act_84 : decode cX11_act 84 = .ok (.iastore, 1) := by decide +kernel
theorem dX11_act_85 : decode cX11_act 85 = .ok (.aload_n 0, 1) := by decide +kernel
theorem dX11_act_86 : decode cX11_act 86 = .ok (.iconst 0, 1) := by decide +kernel
theorem dX11_act_87 : decode cX11_act 87 = .ok (.invokevirtual 157, 3) := by decide +kernel
theorem dX11_act_90 : decode cX11_act 90 = .ok (.ireturn, 1) := by decide +kernel
def f_Model_act_b66  (Q : Int32 → MI → MJ → Prop) (I : MI) (J : MJ) : Prop :=
  f_Model_refuse (2 : Int32) I J (fun r68 I68 J68 => Q r68 I68 J68)
def f_Model_act (x1 : Int32) (x2 : Int32) (x3 : Int32) (x4 : Int32) (I : MI) (J : MJ) (Q : Int32 → MI → MJ → Prop) : Prop :=
  f_Model_noMachine x1 I J (fun r2 I2 J2 => (if r2 = 0 then vp_in x1 16 ∧ (if (I2 178 x1.toNatClampNeg) = 3 then f_Model_noTake x1 x2 x3 I2 J2 (fun r38 I38 J38 => (if r38 = 0 then (if x4 < 0 then f_Model_act_b66 Q I38 J38 else (if x4 ≤ 3 then f_Model_spot x1 x2 x3 I38 J38 (fun r79 I79 J79 => vp_in r79 1120 ∧ ∀ I84 : MI, I84 = sI I79 190 (upd (I79 190) r79.toNatClampNeg x4) → f_Model_done (0 : Int32) I84 J79 (fun r87 I87 J87 => Q r87 I87 J87)) else f_Model_act_b66 Q I38 J38)) else f_Model_refuse r38 I38 J38 (fun r51 I51 J51 => Q r51 I51 J51))) else f_Model_refuse (4 : Int32) I2 J2 (fun r30 I30 J30 => Q r30 I30 J30)) else f_Model_noMachine x1 I2 J2 (fun r11 I11 J11 => f_Model_refuse r11 I11 J11 (fun r14 I14 J14 => Q r14 I14 J14))))
set_option maxRecDepth 100000 in
set_option maxHeartbeats 4000000 in
theorem w_Model_act_b66 {Γ : Ctx} {Q : Int32 → MI → MJ → Prop}   (X : Cx Γ cX11_act 6 RX11 2) (Y : Rt Γ (Pi Q) (Option.some Jvm.ClassFile.FieldType.int))   {I : MI} {J : MJ} (h : f_Model_act_b66 Q I J) : Wp Γ 6 66 [(0, .ref (ad Γ 177))] [] I J := by
  unfold f_Model_act_b66 at h
  refine wp_aload_n X dX11_act_66 0 rfl ?_
  refine wp_iconst X dX11_act_67 ic_2 ?_
  refine cv_Model_refuse X dX11_act_68 ml_X11_219  h (Nat.le_of_ble_eq_true rfl) (by decide) (fun r68 I68 J68 h => ?_)
  exact wp_iret X Y dX11_act_71 ⟨_, rfl, h⟩

set_option maxRecDepth 100000 in
set_option maxHeartbeats 4000000 in
theorem w_Model_act_b0 {Γ : Ctx} {Q : Int32 → MI → MJ → Prop} {x1 : Int32} {x2 : Int32} {x3 : Int32} {x4 : Int32}  (X : Cx Γ cX11_act 6 RX11 2) (Y : Rt Γ (Pi Q) (Option.some Jvm.ClassFile.FieldType.int))   {I : MI} {J : MJ} (h : f_Model_act x1 x2 x3 x4 I J Q) : Wp Γ 6 0 [(0, .ref (ad Γ 177)), (1, .int x1), (2, .int x2), (3, .int x3), (4, .int x4)] [] I J := by
  unfold f_Model_act at h
  refine wp_aload_n X dX11_act_0 0 rfl ?_
  refine wp_iload_n X dX11_act_1 1 rfl ?_
  refine cv_Model_noMachine X dX11_act_2 ml_X11_222  h (Nat.le_of_ble_eq_true rfl) (by decide) (fun r2 I2 J2 h => ?_)
  refine wp_if_eq (tgt := 18) X dX11_act_5 (by decide) (fun hc => ?_) (fun hc => ?_)
  · have h := ite_t h hc
    refine wp_aload_n X dX11_act_18 0 rfl ?_
    refine gf_X11_7 (o' := 178) X sh_177 rfl dX11_act_19 ?_
    refine wp_iload_n X dX11_act_22 1 rfl ?_
    obtain ⟨hb23, h⟩ := h
    refine wp_iald X sh_178 hb23 dX11_act_23 ?_
    refine wp_iconst X dX11_act_24 ic_3 ?_
    refine wp_icmp_eq (tgt := 34) X dX11_act_25 (by decide) (fun hc => ?_) (fun hc => ?_)
    · have h := ite_t h hc
      refine wp_aload_n X dX11_act_34 0 rfl ?_
      refine wp_iload_n X dX11_act_35 1 rfl ?_
      refine wp_iload_n X dX11_act_36 2 rfl ?_
      refine wp_iload_n X dX11_act_37 3 rfl ?_
      refine cv_Model_noTake X dX11_act_38 ml_X11_231  h (Nat.le_of_ble_eq_true rfl) (by decide) (fun r38 I38 J38 h => ?_)
      refine wp_istore (L' := [(5, .int r38), (0, .ref (ad Γ 177)), (1, .int x1), (2, .int x2), (3, .int x3), (4, .int x4)]) X dX11_act_41 (by decide) rfl ?_
      refine wp_iload X dX11_act_43 0 rfl ?_
      refine wp_if_eq (tgt := 55) X dX11_act_45 (by decide) (fun hc => ?_) (fun hc => ?_)
      · have h := ite_t h hc
        refine wp_iload X dX11_act_55 5 rfl ?_
        refine wp_if_lt (tgt := 66) X dX11_act_57 (by decide) (fun hc => ?_) (fun hc => ?_)
        · have h := ite_t h hc
          refine wp_sub X [1] rfl ?_
          exact w_Model_act_b66 X Y  h
        · have h := ite_f h hc
          refine wp_iload X dX11_act_60 5 rfl ?_
          refine wp_iconst X dX11_act_62 ic_3 ?_
          refine wp_icmp_le (tgt := 72) X dX11_act_63 (by decide) (fun hc => ?_) (fun hc => ?_)
          · have h := ite_t h hc
            refine wp_aload_n X dX11_act_72 1 rfl ?_
            refine gf_X11_48 (o' := 190) X sh_177 rfl dX11_act_73 ?_
            refine wp_iload_n X dX11_act_76 2 rfl ?_
            refine wp_iload_n X dX11_act_77 3 rfl ?_
            refine wp_iload_n X dX11_act_78 4 rfl ?_
            refine cs_Model_spot X dX11_act_79 ml_X11_149  h (Nat.le_of_ble_eq_true rfl) (by decide) (fun r79 I79 J79 h => ?_)
            refine wp_iload X dX11_act_82 5 rfl ?_
            obtain ⟨hb84, h⟩ := h
            refine wp_iast X sh_190 hb84 dX11_act_84 ?_
            refine wp_memI (fun I84 eI84 => ?_)
            have h := h I84 eI84
            refine wp_aload_n X dX11_act_85 1 rfl ?_
            refine wp_iconst X dX11_act_86 ic_0 ?_
            refine cv_Model_done X dX11_act_87 ml_X11_157  h (Nat.le_of_ble_eq_true rfl) (by decide) (fun r87 I87 J87 h => ?_)
            exact wp_iret X Y dX11_act_90 ⟨_, rfl, h⟩
          · have h := ite_f h hc
            refine wp_sub X [1] rfl ?_
            exact w_Model_act_b66 X Y  h
      · have h := ite_f h hc
        refine wp_aload_n X dX11_act_48 1 rfl ?_
        refine wp_iload X dX11_act_49 0 rfl ?_
        refine cv_Model_refuse X dX11_act_51 ml_X11_219  h (Nat.le_of_ble_eq_true rfl) (by decide) (fun r51 I51 J51 h => ?_)
        exact wp_iret X Y dX11_act_54 ⟨_, rfl, h⟩
    · have h := ite_f h hc
      refine wp_aload_n X dX11_act_28 0 rfl ?_
      refine wp_iconst X dX11_act_29 ic_4 ?_
      refine cv_Model_refuse X dX11_act_30 ml_X11_219  h (Nat.le_of_ble_eq_true rfl) (by decide) (fun r30 I30 J30 h => ?_)
      exact wp_iret X Y dX11_act_33 ⟨_, rfl, h⟩
  · have h := ite_f h hc
    refine wp_aload_n X dX11_act_8 0 rfl ?_
    refine wp_aload_n X dX11_act_9 0 rfl ?_
    refine wp_iload_n X dX11_act_10 1 rfl ?_
    refine cv_Model_noMachine X dX11_act_11 ml_X11_222  h (Nat.le_of_ble_eq_true rfl) (by decide) (fun r11 I11 J11 h => ?_)
    refine cv_Model_refuse X dX11_act_14 ml_X11_219  h (Nat.le_of_ble_eq_true rfl) (by decide) (fun r14 I14 J14 h => ?_)
    exact wp_iret X Y dX11_act_17 ⟨_, rfl, h⟩

theorem c_Model_act {l : Launch} {g : GE} (hg : Inj g) {I : MI} {J : MJ} {Q : Int32 → MI → MJ → Prop} {x1 : Int32} {x2 : Int32} {x3 : Int32} {x4 : Int32}  (h : f_Model_act x1 x2 x3 x4 I J Q) : Cm l g yX11_act cX11_act 6 (Option.some Jvm.ClassFile.FieldType.int) 2 [.ref (g.1 177), .int x1, .int x2, .int x3, .int x4] I J (Pi Q) := by
  refine Cm.of (As := fun ad => [.ref (ad 177), .int x1, .int x2, .int x3, .int x4]) hg pn_X11 (Nat.le_of_ble_eq_true rfl) ?_
  exact (fun Γ _ _ X Y => w_Model_act_b0 X Y  h)
theorem cv_Model_act {Γ : Ctx} {cc : ByteArray} {nL d pc index : Nat} {own : String} {L : List (Nat × Value)} {rest : List Value} {I : MI} {J : MJ} {Q : Int32 → MI → MJ → Prop} {x1 : Int32} {x2 : Int32} {x3 : Int32} {x4 : Int32} (X : Cx Γ cc nL own d) (hd : decode cc pc = .ok (.invokevirtual index, 3)) (hlink : Cond.methodLink own index yX11_act ∈ TT)  (h : f_Model_act x1 x2 x3 x4 I J Q) (hrest : (rest.map fun v => v.category).sum ≤ 8) (hdd : 2 + 1 ≤ d) (kk : ∀ (r : Int32) (I' : MI) (J' : MJ), Q r I' J' → Wp Γ nL (pc + 3) L (.int r :: rest) I' J') : Wp Γ nL pc L (.int x4 :: .int x3 :: .int x2 :: .int x1 :: .ref (ad Γ 177) :: rest) I J :=
  wp_callV (As := [.int x1, .int x2, .int x3, .int x4]) (rest := rest) (T := TX11) (N := 62) X hd hlink mv_X11_act sh_177 (by decide) rfl (c_Model_act X.inj  h) rfl rfl hrest hdd (fun v I' J' hv => by obtain ⟨r, rfl, hq⟩ := hv; exact kk r I' J' hq)
theorem dX11_copy_0 : decode cX11_copy 0 = .ok (.aload_n 0, 1) := by decide +kernel
theorem dX11_copy_1 : decode cX11_copy 1 = .ok (.iload_n 1, 1) := by decide +kernel
theorem dX11_copy_2 : decode cX11_copy 2 = .ok (.invokevirtual 222, 3) := by decide +kernel
theorem dX11_copy_5 : decode cX11_copy 5 = .ok (.ifCond .eq 13, 3) := by decide +kernel
theorem dX11_copy_8 : decode cX11_copy 8 = .ok (.aload_n 0, 1) := by decide +kernel
theorem dX11_copy_9 : decode cX11_copy 9 = .ok (.aload_n 0, 1) := by decide +kernel
theorem dX11_copy_10 : decode cX11_copy 10 = .ok (.iload_n 1, 1) := by decide +kernel
theorem dX11_copy_11 : decode cX11_copy 11 = .ok (.invokevirtual 222, 3) := by decide +kernel
theorem dX11_copy_14 : decode cX11_copy 14 = .ok (.invokevirtual 219, 3) := by decide +kernel
theorem dX11_copy_17 : decode cX11_copy 17 = .ok (.ireturn, 1) := by decide +kernel
theorem dX11_copy_18 : decode cX11_copy 18 = .ok (.aload_n 0, 1) := by decide +kernel
theorem dX11_copy_19 : decode cX11_copy 19 = .ok (.iload_n 1, 1) := by decide +kernel
theorem dX11_copy_20 : decode cX11_copy 20 = .ok (.iload_n 2, 1) := by decide +kernel
theorem dX11_copy_21 : decode cX11_copy 21 = .ok (.invokevirtual 225, 3) := by decide +kernel
theorem dX11_copy_24 : decode cX11_copy 24 = .ok (.ifCond .eq 13, 3) := by decide +kernel
theorem dX11_copy_27 : decode cX11_copy 27 = .ok (.aload_n 0, 1) := by decide +kernel
theorem dX11_copy_28 : decode cX11_copy 28 = .ok (.iload_n 1, 1) := by decide +kernel
theorem dX11_copy_29 : decode cX11_copy 29 = .ok (.iload 4, 2) := by decide +kernel
theorem dX11_copy_31 : decode cX11_copy 31 = .ok (.invokevirtual 225, 3) := by decide +kernel
theorem dX11_copy_34 : decode cX11_copy 34 = .ok (.ifCond .ne 9, 3) := by decide +kernel
theorem dX11_copy_37 : decode cX11_copy 37 = .ok (.aload_n 0, 1) := by decide +kernel
theorem dX11_copy_38 : decode cX11_copy 38 = .ok (.iconst 2, 1) := by decide +kernel
theorem dX11_copy_39 : decode cX11_copy 39 = .ok (.invokevirtual 219, 3) := by decide +kernel
theorem dX11_copy_42 : decode cX11_copy 42 = .ok (.ireturn, 1) := by decide +kernel
theorem dX11_copy_43 : decode cX11_copy 43 = .ok (.aload_n 0, 1) := by decide +kernel
theorem dX11_copy_44 : decode cX11_copy 44 = .ok (.iload_n 1, 1) := by decide +kernel
theorem dX11_copy_45 : decode cX11_copy 45 = .ok (.iload_n 2, 1) := by decide +kernel
theorem dX11_copy_46 : decode cX11_copy 46 = .ok (.invokevirtual 228, 3) := by decide +kernel
theorem dX11_copy_49 : decode cX11_copy 49 = .ok (.ifCond .eq 13, 3) := by decide +kernel
theorem dX11_copy_52 : decode cX11_copy 52 = .ok (.aload_n 0, 1) := by decide +kernel
theorem dX11_copy_53 : decode cX11_copy 53 = .ok (.iload_n 1, 1) := by decide +kernel
theorem dX11_copy_54 : decode cX11_copy 54 = .ok (.iload 4, 2) := by decide +kernel
theorem dX11_copy_56 : decode cX11_copy 56 = .ok (.invokevirtual 228, 3) := by decide +kernel
theorem dX11_copy_59 : decode cX11_copy 59 = .ok (.ifCond .ne 9, 3) := by decide +kernel
theorem dX11_copy_62 : decode cX11_copy 62 = .ok (.aload_n 0, 1) := by decide +kernel
theorem dX11_copy_63 : decode cX11_copy 63 = .ok (.iconst 1, 1) := by decide +kernel
theorem dX11_copy_64 : decode cX11_copy 64 = .ok (.invokevirtual 219, 3) := by decide +kernel
theorem dX11_copy_67 : decode cX11_copy 67 = .ok (.ireturn, 1) := by decide +kernel
theorem dX11_copy_68 : decode cX11_copy 68 = .ok (.iload_n 3, 1) := by decide +kernel
theorem dX11_copy_69 : decode cX11_copy 69 = .ok (.ifCond .lt 54, 3) := by decide +kernel
theorem dX11_copy_72 : decode cX11_copy 72 = .ok (.iload 5, 2) := by decide +kernel
theorem dX11_copy_74 : decode cX11_copy 74 = .ok (.ifCond .lt 49, 3) := by decide +kernel
theorem dX11_copy_77 : decode cX11_copy 77 = .ok (.iload_n 3, 1) := by decide +kernel
theorem dX11_copy_78 : decode cX11_copy 78 = .ok (.iconst 4, 1) := by decide +kernel
theorem dX11_copy_79 : decode cX11_copy 79 = .ok (.if_icmp .gt 44, 3) := by decide +kernel
theorem dX11_copy_82 : decode cX11_copy 82 = .ok (.iload 5, 2) := by decide +kernel
theorem dX11_copy_84 : decode cX11_copy 84 = .ok (.iconst 4, 1) := by decide +kernel
theorem dX11_copy_85 : decode cX11_copy 85 = .ok (.if_icmp .gt 38, 3) := by decide +kernel
theorem dX11_copy_88 : decode cX11_copy 88 = .ok (.iload_n 3, 1) := by decide +kernel
theorem dX11_copy_89 : decode cX11_copy 89 = .ok (.iload 5, 2) := by decide +kernel
theorem dX11_copy_91 : decode cX11_copy 91 = .ok (.iadd, 1) := by decide +kernel
theorem dX11_copy_92 : decode cX11_copy 92 = .ok (.aload_n 0, 1) := by decide +kernel
theorem dX11_copy_93 : decode cX11_copy 93 = .ok (.getfield 42, 3) := by decide +kernel
theorem dX11_copy_96 : decode cX11_copy 96 = .ok (.bipush 14, 2) := by decide +kernel
theorem dX11_copy_98 : decode cX11_copy 98 = .ok (.iload_n 1, 1) := by decide +kernel
theorem dX11_copy_99 : decode cX11_copy 99 = .ok (.imul, 1) := by decide +kernel
theorem dX11_copy_100 : decode cX11_copy 100 = .ok (.iload_n 2, 1) := by decide +kernel
theorem dX11_copy_101 : decode cX11_copy 101 = .ok (.iadd, 1) := by decide +kernel
theorem dX11_copy_102 : decode cX11_copy 102 = .ok (.iaload, 1) := by decide +kernel
theorem dX11_copy_103 : decode cX11_copy 103 = .ok (.if_icmp .gt 20, 3) := by decide +kernel
theorem dX11_copy_106 : decode cX11_copy 106 = .ok (.iload 5, 2) := by decide +kernel
theorem dX11_copy_108 : decode cX11_copy 108 = .ok (.aload_n 0, 1) := by decide +kernel
theorem dX11_copy_109 : decode cX11_copy 109 = .ok (.getfield 42, 3) := by decide +kernel
theorem dX11_copy_112 : decode cX11_copy 112 = .ok (.bipush 14, 2) := by decide +kernel
theorem dX11_copy_114 : decode cX11_copy 114 = .ok (.iload_n 1, 1) := by decide +kernel
theorem dX11_copy_115 : decode cX11_copy 115 = .ok (.imul, 1) := by decide +kernel
theorem dX11_copy_116 : decode cX11_copy 116 = .ok (.iload 4, 2) := by decide +kernel
theorem dX11_copy_118 : decode cX11_copy 118 = .ok (.iadd, 1) := by decide +kernel
theorem dX11_copy_119 : decode cX11_copy 119 = .ok (.iaload, 1) := by decide +kernel
theorem dX11_copy_120 : decode cX11_copy 120 = .ok (.if_icmp .le 9, 3) := by decide +kernel
theorem dX11_copy_123 : decode cX11_copy 123 = .ok (.aload_n 0, 1) := by decide +kernel
theorem dX11_copy_124 : decode cX11_copy 124 = .ok (.iconst 2, 1) := by decide +kernel
theorem dX11_copy_125 : decode cX11_copy 125 = .ok (.invokevirtual 219, 3) := by decide +kernel
theorem dX11_copy_128 : decode cX11_copy 128 = .ok (.ireturn, 1) := by decide +kernel
theorem dX11_copy_129 : decode cX11_copy 129 = .ok (.iconst 0, 1) := by decide +kernel
theorem dX11_copy_130 : decode cX11_copy 130 = .ok (.istore 6, 2) := by decide +kernel
theorem dX11_copy_132 : decode cX11_copy 132 = .ok (.iload 6, 2) := by decide +kernel
theorem dX11_copy_134 : decode cX11_copy 134 = .ok (.iload 5, 2) := by decide +kernel
theorem dX11_copy_136 : decode cX11_copy 136 = .ok (.if_icmp .ge 51, 3) := by decide +kernel
theorem dX11_copy_139 : decode cX11_copy 139 = .ok (.aload_n 0, 1) := by decide +kernel
theorem dX11_copy_140 : decode cX11_copy 140 = .ok (.getfield 72, 3) := by decide +kernel
theorem dX11_copy_143 : decode cX11_copy 143 = .ok (.iload 6, 2) := by decide +kernel
theorem dX11_copy_145 : decode cX11_copy 145 = .ok (.aload_n 0, 1) := by decide +kernel
theorem dX11_copy_146 : decode cX11_copy 146 = .ok (.getfield 45, 3) := by decide +kernel
theorem dX11_copy_149 : decode cX11_copy 149 = .ok (.iload_n 1, 1) := by decide +kernel
theorem dX11_copy_150 : decode cX11_copy 150 = .ok (.iload_n 2, 1) := by decide +kernel
theorem dX11_copy_151 : decode cX11_copy 151 = .ok (.iload_n 3, 1) := by decide +kernel
theorem dX11_copy_152 : decode cX11_copy 152 = .ok (.iload 6, 2) := by decide +kernel
theorem dX11_copy_154 : decode cX11_copy 154 = .ok (.iadd, 1) := by decide +kernel
theorem dX11_copy_155 : decode cX11_copy 155 = .ok (.invokestatic 149, 3) := by decide +kernel
theorem dX11_copy_158 : decode cX11_copy 158 = .ok (.iaload, 1) := by decide +kernel
theorem dX11_copy_159 : decode cX11_copy 159 = .ok (.iastore, 1) := by decide +kernel
theorem dX11_copy_160 : decode cX11_copy 160 = .ok (.aload_n 0, 1) := by decide +kernel
theorem dX11_copy_161 : decode cX11_copy 161 = .ok (.getfield 75, 3) := by decide +kernel
theorem dX11_copy_164 : decode cX11_copy 164 = .ok (.iload 6, 2) := by decide +kernel
theorem dX11_copy_166 : decode cX11_copy 166 = .ok (.aload_n 0, 1) := by decide +kernel
theorem dX11_copy_167 : decode cX11_copy 167 = .ok (.getfield 48, 3) := by decide +kernel
theorem dX11_copy_170 : decode cX11_copy 170 = .ok (.iload_n 1, 1) := by decide +kernel
theorem dX11_copy_171 : decode cX11_copy 171 = .ok (.iload_n 2, 1) := by decide +kernel
theorem dX11_copy_172 : decode cX11_copy 172 = .ok (.iload_n 3, 1) := by decide +kernel
theorem dX11_copy_173 : decode cX11_copy 173 = .ok (.iload 6, 2) := by decide +kernel
theorem dX11_copy_175 : decode cX11_copy 175 = .ok (.iadd, 1) := by decide +kernel
theorem dX11_copy_176 : decode cX11_copy 176 = .ok (.invokestatic 149, 3) := by decide +kernel
theorem dX11_copy_179 : decode cX11_copy 179 = .ok (.iaload, 1) := by decide +kernel
theorem dX11_copy_180 : decode cX11_copy 180 = .ok (.iastore, 1) := by decide +kernel
theorem dX11_copy_181 : decode cX11_copy 181 = .ok (.iinc 6 1, 3) := by decide +kernel
theorem dX11_copy_184 : decode cX11_copy 184 = .ok (.goto (-52), 3) := by decide +kernel
theorem dX11_copy_187 : decode cX11_copy 187 = .ok (.iconst 0, 1) := by decide +kernel
theorem dX11_copy_188 : decode cX11_copy 188 = .ok (.istore 6, 2) := by decide +kernel
theorem dX11_copy_190 : decode cX11_copy 190 = .ok (.iload 6, 2) := by decide +kernel
theorem dX11_copy_192 : decode cX11_copy 192 = .ok (.iload 5, 2) := by decide +kernel
theorem dX11_copy_194 : decode cX11_copy 194 = .ok (.if_icmp .ge 49, 3) := by decide +kernel
theorem dX11_copy_197 : decode cX11_copy 197 = .ok (.aload_n 0, 1) := by decide +kernel
theorem dX11_copy_198 : decode cX11_copy 198 = .ok (.getfield 45, 3) := by decide +kernel
theorem dX11_copy_201 : decode cX11_copy 201 = .ok (.iload_n 1, 1) := by decide +kernel
theorem dX11_copy_202 : decode cX11_copy 202 = .ok (.iload 4, 2) := by decide +kernel
theorem dX11_copy_204 : decode cX11_copy 204 = .ok (.iload 6, 2) := by decide +kernel
theorem dX11_copy_206 : decode cX11_copy 206 = .ok (.invokestatic 149, 3) := by decide +kernel
theorem dX11_copy_209 : decode cX11_copy 209 = .ok (.aload_n 0, 1) := by decide +kernel
theorem dX11_copy_210 : decode cX11_copy 210 = .ok (.getfield 72, 3) := by decide +kernel
theorem dX11_copy_213 : decode cX11_copy 213 = .ok (.iload 6, 2) := by decide +kernel
theorem dX11_copy_215 : decode cX11_copy 215 = .ok (.iaload, 1) := by decide +kernel
theorem dX11_copy_216 : decode cX11_copy 216 = .ok (.iastore, 1) := by decide +kernel
theorem dX11_copy_217 : decode cX11_copy 217 = .ok (.aload_n 0, 1) := by decide +kernel
theorem dX11_copy_218 : decode cX11_copy 218 = .ok (.getfield 48, 3) := by decide +kernel
theorem dX11_copy_221 : decode cX11_copy 221 = .ok (.iload_n 1, 1) := by decide +kernel
theorem dX11_copy_222 : decode cX11_copy 222 = .ok (.iload 4, 2) := by decide +kernel
theorem dX11_copy_224 : decode cX11_copy 224 = .ok (.iload 6, 2) := by decide +kernel
theorem dX11_copy_226 : decode cX11_copy 226 = .ok (.invokestatic 149, 3) := by decide +kernel
theorem dX11_copy_229 : decode cX11_copy 229 = .ok (.aload_n 0, 1) := by decide +kernel
theorem dX11_copy_230 : decode cX11_copy 230 = .ok (.getfield 75, 3) := by decide +kernel
theorem dX11_copy_233 : decode cX11_copy 233 = .ok (.iload 6, 2) := by decide +kernel
theorem dX11_copy_235 : decode cX11_copy 235 = .ok (.iaload, 1) := by decide +kernel
theorem dX11_copy_236 : decode cX11_copy 236 = .ok (.iastore, 1) := by decide +kernel
theorem dX11_copy_237 : decode cX11_copy 237 = .ok (.iinc 6 1, 3) := by decide +kernel
theorem dX11_copy_240 : decode cX11_copy 240 = .ok (.goto (-50), 3) := by decide +kernel
theorem dX11_copy_243 : decode cX11_copy 243 = .ok (.aload_n 0, 1) := by decide +kernel
theorem dX11_copy_244 : decode cX11_copy 244 = .ok (.iconst 0, 1) := by decide +kernel
theorem dX11_copy_245 : decode cX11_copy 245 = .ok (.invokevirtual 157, 3) := by decide +kernel
theorem dX11_copy_248 : decode cX11_copy 248 = .ok (.ireturn, 1) := by decide +kernel
def f_Model_copy_L190 (x1 : Int32) (x4 : Int32) (x5 : Int32) (k243 : MI → MJ → Prop) : Nat → Int32 → MI → MJ → Prop
  | 0, _, _, _ => False
  | nf190 + 1, x6, I, J =>
  (if x5 ≤ x6 then k243 I J else f_Model_spot x1 x4 x6 I J (fun r206 I206 J206 => vp_in x6 4 ∧ vp_in r206 1120 ∧ ∀ I216 : MI, I216 = sI I206 189 (upd (I206 189) r206.toNatClampNeg (I206 198 x6.toNatClampNeg)) → f_Model_spot x1 x4 x6 I216 J206 (fun r226 I226 J226 => vp_in x6 4 ∧ vp_in r226 1120 ∧ ∀ I236 : MI, I236 = sI I226 190 (upd (I226 190) r226.toNatClampNeg (I226 199 x6.toNatClampNeg)) → ∀ t237 : Int32, t237 = x6 + 1 → f_Model_copy_L190 x1 x4 x5 k243 nf190 t237 I236 J226)))
def f_Model_copy_L132 (x1 : Int32) (x2 : Int32) (x3 : Int32) (x5 : Int32) (k187 : MI → MJ → Prop) : Nat → Int32 → MI → MJ → Prop
  | 0, _, _, _ => False
  | nf132 + 1, x6, I, J =>
  (if x5 ≤ x6 then k187 I J else f_Model_spot x1 x2 (x3 + x6) I J (fun r155 I155 J155 => vp_in r155 1120 ∧ vp_in x6 4 ∧ ∀ I159 : MI, I159 = sI I155 198 (upd (I155 198) x6.toNatClampNeg (I155 189 r155.toNatClampNeg)) → f_Model_spot x1 x2 (x3 + x6) I159 J155 (fun r176 I176 J176 => vp_in r176 1120 ∧ vp_in x6 4 ∧ ∀ I180 : MI, I180 = sI I176 199 (upd (I176 199) x6.toNatClampNeg (I176 190 r176.toNatClampNeg)) → ∀ t181 : Int32, t181 = x6 + 1 → f_Model_copy_L132 x1 x2 x3 x5 k187 nf132 t181 I180 J176)))
def f_Model_copy_b123  (Q : Int32 → MI → MJ → Prop) (I : MI) (J : MJ) : Prop :=
  f_Model_refuse (2 : Int32) I J (fun r125 I125 J125 => Q r125 I125 J125)
def f_Model_copy_b62  (Q : Int32 → MI → MJ → Prop) (I : MI) (J : MJ) : Prop :=
  f_Model_refuse (1 : Int32) I J (fun r64 I64 J64 => Q r64 I64 J64)
def f_Model_copy_b37  (Q : Int32 → MI → MJ → Prop) (I : MI) (J : MJ) : Prop :=
  f_Model_refuse (2 : Int32) I J (fun r39 I39 J39 => Q r39 I39 J39)
def f_Model_copy (x1 : Int32) (x2 : Int32) (x3 : Int32) (x4 : Int32) (x5 : Int32) (I : MI) (J : MJ) (Q : Int32 → MI → MJ → Prop) : Prop :=
  f_Model_noMachine x1 I J (fun r2 I2 J2 => (if r2 = 0 then f_Model_isState x1 x2 I2 J2 (fun r21 I21 J21 => (if r21 = 0 then f_Model_copy_b37 Q I21 J21 else f_Model_isState x1 x4 I21 J21 (fun r31 I31 J31 => (if r31 = 0 then f_Model_copy_b37 Q I31 J31 else f_Model_hasRow x1 x2 I31 J31 (fun r46 I46 J46 => (if r46 = 0 then f_Model_copy_b62 Q I46 J46 else f_Model_hasRow x1 x4 I46 J46 (fun r56 I56 J56 => (if r56 = 0 then f_Model_copy_b62 Q I56 J56 else (if x3 < 0 then f_Model_copy_b123 Q I56 J56 else (if x5 < 0 then f_Model_copy_b123 Q I56 J56 else (if 4 < x3 then f_Model_copy_b123 Q I56 J56 else (if 4 < x5 then f_Model_copy_b123 Q I56 J56 else vp_in ((14 * x1) + x2) 280 ∧ (if (I56 188 ((14 * x1) + x2).toNatClampNeg) < (x3 + x5) then f_Model_copy_b123 Q I56 J56 else vp_in ((14 * x1) + x4) 280 ∧ (if x5 ≤ (I56 188 ((14 * x1) + x4).toNatClampNeg) then ∃ n, f_Model_copy_L132 x1 x2 x3 x5 (fun (I : MI) (J : MJ) => ∃ n, f_Model_copy_L190 x1 x4 x5 (fun (I : MI) (J : MJ) => f_Model_done (0 : Int32) I J (fun r245 I245 J245 => Q r245 I245 J245)) n 0 I J) n 0 I56 J56 else f_Model_copy_b123 Q I56 J56)))))))))))))) else f_Model_noMachine x1 I2 J2 (fun r11 I11 J11 => f_Model_refuse r11 I11 J11 (fun r14 I14 J14 => Q r14 I14 J14))))
set_option maxRecDepth 100000 in
set_option maxHeartbeats 4000000 in
theorem w_Model_copy_L190 {Γ : Ctx} {Q : Int32 → MI → MJ → Prop} {x1 : Int32} {x4 : Int32} {x5 : Int32} {k243 : MI → MJ → Prop} (X : Cx Γ cX11_copy 7 RX11 2) (Y : Rt Γ (Pi Q) (Option.some Jvm.ClassFile.FieldType.int))  (hk243 : ∀ (I : MI) (J : MJ), k243 I J → Wp Γ 7 243 [(0, .ref (ad Γ 177))] [] I J) : ∀ (n : Nat) (x6 : Int32) (I : MI) (J : MJ), f_Model_copy_L190 x1 x4 x5 k243 n x6 I J → Wp Γ 7 190 [(0, .ref (ad Γ 177)), (1, .int x1), (4, .int x4), (5, .int x5), (6, .int x6)] [] I J := by
  intro n
  induction n with
  | zero => intro x6 I J h; exact absurd h (by simp [f_Model_copy_L190])
  | succ n ih =>
  intro x6 I J h
  unfold f_Model_copy_L190 at h
  refine wp_iload X dX11_copy_190 4 rfl ?_
  refine wp_iload X dX11_copy_192 3 rfl ?_
  refine wp_icmp_ge (tgt := 243) X dX11_copy_194 (by decide) (fun hc => ?_) (fun hc => ?_)
  · have h := ite_t h hc
    refine wp_sub X [0] rfl ?_
    exact hk243 _ _ h
  · have h := ite_f h hc
    refine wp_aload_n X dX11_copy_197 0 rfl ?_
    refine gf_X11_45 (o' := 189) X sh_177 rfl dX11_copy_198 ?_
    refine wp_iload_n X dX11_copy_201 1 rfl ?_
    refine wp_iload X dX11_copy_202 2 rfl ?_
    refine wp_iload X dX11_copy_204 4 rfl ?_
    refine cs_Model_spot X dX11_copy_206 ml_X11_149  h (Nat.le_of_ble_eq_true rfl) (by decide) (fun r206 I206 J206 h => ?_)
    refine wp_aload_n X dX11_copy_209 0 rfl ?_
    refine gf_X11_72 (o' := 198) X sh_177 rfl dX11_copy_210 ?_
    refine wp_iload X dX11_copy_213 4 rfl ?_
    obtain ⟨hb215, h⟩ := h
    refine wp_iald X sh_198 hb215 dX11_copy_215 ?_
    obtain ⟨hb216, h⟩ := h
    refine wp_iast X sh_189 hb216 dX11_copy_216 ?_
    refine wp_memI (fun I216 eI216 => ?_)
    have h := h I216 eI216
    refine wp_aload_n X dX11_copy_217 0 rfl ?_
    refine gf_X11_48 (o' := 190) X sh_177 rfl dX11_copy_218 ?_
    refine wp_iload_n X dX11_copy_221 1 rfl ?_
    refine wp_iload X dX11_copy_222 2 rfl ?_
    refine wp_iload X dX11_copy_224 4 rfl ?_
    refine cs_Model_spot X dX11_copy_226 ml_X11_149  h (Nat.le_of_ble_eq_true rfl) (by decide) (fun r226 I226 J226 h => ?_)
    refine wp_aload_n X dX11_copy_229 0 rfl ?_
    refine gf_X11_75 (o' := 199) X sh_177 rfl dX11_copy_230 ?_
    refine wp_iload X dX11_copy_233 4 rfl ?_
    obtain ⟨hb235, h⟩ := h
    refine wp_iald X sh_199 hb235 dX11_copy_235 ?_
    obtain ⟨hb236, h⟩ := h
    refine wp_iast X sh_190 hb236 dX11_copy_236 ?_
    refine wp_memI (fun I236 eI236 => ?_)
    have h := h I236 eI236
    obtain ⟨t237, et237⟩ : ∃ y : Int32, y = x6 + 1 := ⟨_, rfl⟩
    have h := h t237 et237
    refine wp_iinc (L' := [(6, .int t237), (0, .ref (ad Γ 177)), (1, .int x1), (4, .int x4), (5, .int x5)]) X dX11_copy_237 4 rfl (ii_1 et237) (by decide) rfl ?_
    refine wp_goto (tgt := 190) X dX11_copy_240 (by decide) ?_
    refine wp_sub X [1, 2, 3, 4, 0] rfl ?_
    exact ih _ _ _ h

set_option maxRecDepth 100000 in
set_option maxHeartbeats 4000000 in
theorem w_Model_copy_L132 {Γ : Ctx} {Q : Int32 → MI → MJ → Prop} {x1 : Int32} {x2 : Int32} {x3 : Int32} {x4 : Int32} {x5 : Int32} {k187 : MI → MJ → Prop} (X : Cx Γ cX11_copy 7 RX11 2) (Y : Rt Γ (Pi Q) (Option.some Jvm.ClassFile.FieldType.int))  (hk187 : ∀ (I : MI) (J : MJ), k187 I J → Wp Γ 7 187 [(0, .ref (ad Γ 177)), (1, .int x1), (4, .int x4), (5, .int x5)] [] I J) : ∀ (n : Nat) (x6 : Int32) (I : MI) (J : MJ), f_Model_copy_L132 x1 x2 x3 x5 k187 n x6 I J → Wp Γ 7 132 [(0, .ref (ad Γ 177)), (1, .int x1), (2, .int x2), (3, .int x3), (4, .int x4), (5, .int x5), (6, .int x6)] [] I J := by
  intro n
  induction n with
  | zero => intro x6 I J h; exact absurd h (by simp [f_Model_copy_L132])
  | succ n ih =>
  intro x6 I J h
  unfold f_Model_copy_L132 at h
  refine wp_iload X dX11_copy_132 6 rfl ?_
  refine wp_iload X dX11_copy_134 5 rfl ?_
  refine wp_icmp_ge (tgt := 187) X dX11_copy_136 (by decide) (fun hc => ?_) (fun hc => ?_)
  · have h := ite_t h hc
    refine wp_sub X [0, 1, 4, 5] rfl ?_
    exact hk187 _ _ h
  · have h := ite_f h hc
    refine wp_aload_n X dX11_copy_139 0 rfl ?_
    refine gf_X11_72 (o' := 198) X sh_177 rfl dX11_copy_140 ?_
    refine wp_iload X dX11_copy_143 6 rfl ?_
    refine wp_aload_n X dX11_copy_145 0 rfl ?_
    refine gf_X11_45 (o' := 189) X sh_177 rfl dX11_copy_146 ?_
    refine wp_iload_n X dX11_copy_149 1 rfl ?_
    refine wp_iload_n X dX11_copy_150 2 rfl ?_
    refine wp_iload_n X dX11_copy_151 3 rfl ?_
    refine wp_iload X dX11_copy_152 6 rfl ?_
    refine wp_iadd X dX11_copy_154 ?_
    refine cs_Model_spot X dX11_copy_155 ml_X11_149  h (Nat.le_of_ble_eq_true rfl) (by decide) (fun r155 I155 J155 h => ?_)
    obtain ⟨hb158, h⟩ := h
    refine wp_iald X sh_189 hb158 dX11_copy_158 ?_
    obtain ⟨hb159, h⟩ := h
    refine wp_iast X sh_198 hb159 dX11_copy_159 ?_
    refine wp_memI (fun I159 eI159 => ?_)
    have h := h I159 eI159
    refine wp_aload_n X dX11_copy_160 0 rfl ?_
    refine gf_X11_75 (o' := 199) X sh_177 rfl dX11_copy_161 ?_
    refine wp_iload X dX11_copy_164 6 rfl ?_
    refine wp_aload_n X dX11_copy_166 0 rfl ?_
    refine gf_X11_48 (o' := 190) X sh_177 rfl dX11_copy_167 ?_
    refine wp_iload_n X dX11_copy_170 1 rfl ?_
    refine wp_iload_n X dX11_copy_171 2 rfl ?_
    refine wp_iload_n X dX11_copy_172 3 rfl ?_
    refine wp_iload X dX11_copy_173 6 rfl ?_
    refine wp_iadd X dX11_copy_175 ?_
    refine cs_Model_spot X dX11_copy_176 ml_X11_149  h (Nat.le_of_ble_eq_true rfl) (by decide) (fun r176 I176 J176 h => ?_)
    obtain ⟨hb179, h⟩ := h
    refine wp_iald X sh_190 hb179 dX11_copy_179 ?_
    obtain ⟨hb180, h⟩ := h
    refine wp_iast X sh_199 hb180 dX11_copy_180 ?_
    refine wp_memI (fun I180 eI180 => ?_)
    have h := h I180 eI180
    obtain ⟨t181, et181⟩ : ∃ y : Int32, y = x6 + 1 := ⟨_, rfl⟩
    have h := h t181 et181
    refine wp_iinc (L' := [(6, .int t181), (0, .ref (ad Γ 177)), (1, .int x1), (2, .int x2), (3, .int x3), (4, .int x4), (5, .int x5)]) X dX11_copy_181 6 rfl (ii_1 et181) (by decide) rfl ?_
    refine wp_goto (tgt := 132) X dX11_copy_184 (by decide) ?_
    refine wp_sub X [1, 2, 3, 4, 5, 6, 0] rfl ?_
    exact ih _ _ _ h

set_option maxRecDepth 100000 in
set_option maxHeartbeats 4000000 in
theorem w_Model_copy_b123 {Γ : Ctx} {Q : Int32 → MI → MJ → Prop}   (X : Cx Γ cX11_copy 7 RX11 2) (Y : Rt Γ (Pi Q) (Option.some Jvm.ClassFile.FieldType.int))   {I : MI} {J : MJ} (h : f_Model_copy_b123 Q I J) : Wp Γ 7 123 [(0, .ref (ad Γ 177))] [] I J := by
  unfold f_Model_copy_b123 at h
  refine wp_aload_n X dX11_copy_123 0 rfl ?_
  refine wp_iconst X dX11_copy_124 ic_2 ?_
  refine cv_Model_refuse X dX11_copy_125 ml_X11_219  h (Nat.le_of_ble_eq_true rfl) (by decide) (fun r125 I125 J125 h => ?_)
  exact wp_iret X Y dX11_copy_128 ⟨_, rfl, h⟩

set_option maxRecDepth 100000 in
set_option maxHeartbeats 4000000 in
theorem w_Model_copy_b62 {Γ : Ctx} {Q : Int32 → MI → MJ → Prop}   (X : Cx Γ cX11_copy 7 RX11 2) (Y : Rt Γ (Pi Q) (Option.some Jvm.ClassFile.FieldType.int))   {I : MI} {J : MJ} (h : f_Model_copy_b62 Q I J) : Wp Γ 7 62 [(0, .ref (ad Γ 177))] [] I J := by
  unfold f_Model_copy_b62 at h
  refine wp_aload_n X dX11_copy_62 0 rfl ?_
  refine wp_iconst X dX11_copy_63 ic_1 ?_
  refine cv_Model_refuse X dX11_copy_64 ml_X11_219  h (Nat.le_of_ble_eq_true rfl) (by decide) (fun r64 I64 J64 h => ?_)
  exact wp_iret X Y dX11_copy_67 ⟨_, rfl, h⟩

set_option maxRecDepth 100000 in
set_option maxHeartbeats 4000000 in
theorem w_Model_copy_b37 {Γ : Ctx} {Q : Int32 → MI → MJ → Prop}   (X : Cx Γ cX11_copy 7 RX11 2) (Y : Rt Γ (Pi Q) (Option.some Jvm.ClassFile.FieldType.int))   {I : MI} {J : MJ} (h : f_Model_copy_b37 Q I J) : Wp Γ 7 37 [(0, .ref (ad Γ 177))] [] I J := by
  unfold f_Model_copy_b37 at h
  refine wp_aload_n X dX11_copy_37 0 rfl ?_
  refine wp_iconst X dX11_copy_38 ic_2 ?_
  refine cv_Model_refuse X dX11_copy_39 ml_X11_219  h (Nat.le_of_ble_eq_true rfl) (by decide) (fun r39 I39 J39 h => ?_)
  exact wp_iret X Y dX11_copy_42 ⟨_, rfl, h⟩

set_option maxRecDepth 100000 in
set_option maxHeartbeats 4000000 in
theorem w_Model_copy_b0 {Γ : Ctx} {Q : Int32 → MI → MJ → Prop} {x1 : Int32} {x2 : Int32} {x3 : Int32} {x4 : Int32} {x5 : Int32}  (X : Cx Γ cX11_copy 7 RX11 2) (Y : Rt Γ (Pi Q) (Option.some Jvm.ClassFile.FieldType.int))   {I : MI} {J : MJ} (h : f_Model_copy x1 x2 x3 x4 x5 I J Q) : Wp Γ 7 0 [(0, .ref (ad Γ 177)), (1, .int x1), (2, .int x2), (3, .int x3), (4, .int x4), (5, .int x5)] [] I J := by
  unfold f_Model_copy at h
  refine wp_aload_n X dX11_copy_0 0 rfl ?_
  refine wp_iload_n X dX11_copy_1 1 rfl ?_
  refine cv_Model_noMachine X dX11_copy_2 ml_X11_222  h (Nat.le_of_ble_eq_true rfl) (by decide) (fun r2 I2 J2 h => ?_)
  refine wp_if_eq (tgt := 18) X dX11_copy_5 (by decide) (fun hc => ?_) (fun hc => ?_)
  · have h := ite_t h hc
    refine wp_aload_n X dX11_copy_18 0 rfl ?_
    refine wp_iload_n X dX11_copy_19 1 rfl ?_
    refine wp_iload_n X dX11_copy_20 2 rfl ?_
    refine cv_Model_isState X dX11_copy_21 ml_X11_225  h (Nat.le_of_ble_eq_true rfl) (by decide) (fun r21 I21 J21 h => ?_)
    refine wp_if_eq (tgt := 37) X dX11_copy_24 (by decide) (fun hc => ?_) (fun hc => ?_)
    · have h := ite_t h hc
      refine wp_sub X [0] rfl ?_
      exact w_Model_copy_b37 X Y  h
    · have h := ite_f h hc
      refine wp_aload_n X dX11_copy_27 0 rfl ?_
      refine wp_iload_n X dX11_copy_28 1 rfl ?_
      refine wp_iload X dX11_copy_29 4 rfl ?_
      refine cv_Model_isState X dX11_copy_31 ml_X11_225  h (Nat.le_of_ble_eq_true rfl) (by decide) (fun r31 I31 J31 h => ?_)
      refine wp_if_ne (tgt := 43) X dX11_copy_34 (by decide) (fun hc => ?_) (fun hc => ?_)
      · have h := ite_f h hc
        refine wp_aload_n X dX11_copy_43 0 rfl ?_
        refine wp_iload_n X dX11_copy_44 1 rfl ?_
        refine wp_iload_n X dX11_copy_45 2 rfl ?_
        refine cv_Model_hasRow X dX11_copy_46 ml_X11_228  h (Nat.le_of_ble_eq_true rfl) (by decide) (fun r46 I46 J46 h => ?_)
        refine wp_if_eq (tgt := 62) X dX11_copy_49 (by decide) (fun hc => ?_) (fun hc => ?_)
        · have h := ite_t h hc
          refine wp_sub X [0] rfl ?_
          exact w_Model_copy_b62 X Y  h
        · have h := ite_f h hc
          refine wp_aload_n X dX11_copy_52 0 rfl ?_
          refine wp_iload_n X dX11_copy_53 1 rfl ?_
          refine wp_iload X dX11_copy_54 4 rfl ?_
          refine cv_Model_hasRow X dX11_copy_56 ml_X11_228  h (Nat.le_of_ble_eq_true rfl) (by decide) (fun r56 I56 J56 h => ?_)
          refine wp_if_ne (tgt := 68) X dX11_copy_59 (by decide) (fun hc => ?_) (fun hc => ?_)
          · have h := ite_f h hc
            refine wp_iload_n X dX11_copy_68 3 rfl ?_
            refine wp_if_lt (tgt := 123) X dX11_copy_69 (by decide) (fun hc => ?_) (fun hc => ?_)
            · have h := ite_t h hc
              refine wp_sub X [0] rfl ?_
              exact w_Model_copy_b123 X Y  h
            · have h := ite_f h hc
              refine wp_iload X dX11_copy_72 5 rfl ?_
              refine wp_if_lt (tgt := 123) X dX11_copy_74 (by decide) (fun hc => ?_) (fun hc => ?_)
              · have h := ite_t h hc
                refine wp_sub X [0] rfl ?_
                exact w_Model_copy_b123 X Y  h
              · have h := ite_f h hc
                refine wp_iload_n X dX11_copy_77 3 rfl ?_
                refine wp_iconst X dX11_copy_78 ic_4 ?_
                refine wp_icmp_gt (tgt := 123) X dX11_copy_79 (by decide) (fun hc => ?_) (fun hc => ?_)
                · have h := ite_t h hc
                  refine wp_sub X [0] rfl ?_
                  exact w_Model_copy_b123 X Y  h
                · have h := ite_f h hc
                  refine wp_iload X dX11_copy_82 5 rfl ?_
                  refine wp_iconst X dX11_copy_84 ic_4 ?_
                  refine wp_icmp_gt (tgt := 123) X dX11_copy_85 (by decide) (fun hc => ?_) (fun hc => ?_)
                  · have h := ite_t h hc
                    refine wp_sub X [0] rfl ?_
                    exact w_Model_copy_b123 X Y  h
                  · have h := ite_f h hc
                    refine wp_iload_n X dX11_copy_88 3 rfl ?_
                    refine wp_iload X dX11_copy_89 5 rfl ?_
                    refine wp_iadd X dX11_copy_91 ?_
                    refine wp_aload_n X dX11_copy_92 0 rfl ?_
                    refine gf_X11_42 (o' := 188) X sh_177 rfl dX11_copy_93 ?_
                    refine wp_bipush X dX11_copy_96 bi_14 ?_
                    refine wp_iload_n X dX11_copy_98 1 rfl ?_
                    refine wp_imul X dX11_copy_99 ?_
                    refine wp_iload_n X dX11_copy_100 2 rfl ?_
                    refine wp_iadd X dX11_copy_101 ?_
                    obtain ⟨hb102, h⟩ := h
                    refine wp_iald X sh_188 hb102 dX11_copy_102 ?_
                    refine wp_icmp_gt (tgt := 123) X dX11_copy_103 (by decide) (fun hc => ?_) (fun hc => ?_)
                    · have h := ite_t h hc
                      refine wp_sub X [0] rfl ?_
                      exact w_Model_copy_b123 X Y  h
                    · have h := ite_f h hc
                      refine wp_iload X dX11_copy_106 5 rfl ?_
                      refine wp_aload_n X dX11_copy_108 0 rfl ?_
                      refine gf_X11_42 (o' := 188) X sh_177 rfl dX11_copy_109 ?_
                      refine wp_bipush X dX11_copy_112 bi_14 ?_
                      refine wp_iload_n X dX11_copy_114 1 rfl ?_
                      refine wp_imul X dX11_copy_115 ?_
                      refine wp_iload X dX11_copy_116 4 rfl ?_
                      refine wp_iadd X dX11_copy_118 ?_
                      obtain ⟨hb119, h⟩ := h
                      refine wp_iald X sh_188 hb119 dX11_copy_119 ?_
                      refine wp_icmp_le (tgt := 129) X dX11_copy_120 (by decide) (fun hc => ?_) (fun hc => ?_)
                      · have h := ite_t h hc
                        refine wp_iconst X dX11_copy_129 ic_0 ?_
                        refine wp_istore (L' := [(6, .int 0), (0, .ref (ad Γ 177)), (1, .int x1), (2, .int x2), (3, .int x3), (4, .int x4), (5, .int x5)]) X dX11_copy_130 (by decide) rfl ?_
                        obtain ⟨n, h⟩ := h
                        refine wp_sub X [1, 2, 3, 4, 5, 6, 0] rfl ?_
                        refine w_Model_copy_L132 X Y  ?_ n _ _ _ h
                        · intro I J h
                          refine wp_iconst X dX11_copy_187 ic_0 ?_
                          refine wp_istore (L' := [(6, .int 0), (0, .ref (ad Γ 177)), (1, .int x1), (4, .int x4), (5, .int x5)]) X dX11_copy_188 (by decide) rfl ?_
                          obtain ⟨n, h⟩ := h
                          refine wp_sub X [1, 2, 3, 4, 0] rfl ?_
                          refine w_Model_copy_L190 X Y  ?_ n _ _ _ h
                          · intro I J h
                            refine wp_aload_n X dX11_copy_243 0 rfl ?_
                            refine wp_iconst X dX11_copy_244 ic_0 ?_
                            refine cv_Model_done X dX11_copy_245 ml_X11_157  h (Nat.le_of_ble_eq_true rfl) (by decide) (fun r245 I245 J245 h => ?_)
                            exact wp_iret X Y dX11_copy_248 ⟨_, rfl, h⟩
                      · have h := ite_f h hc
                        refine wp_sub X [0] rfl ?_
                        exact w_Model_copy_b123 X Y  h
          · have h := ite_t h hc
            refine wp_sub X [0] rfl ?_
            exact w_Model_copy_b62 X Y  h
      · have h := ite_t h hc
        refine wp_sub X [0] rfl ?_
        exact w_Model_copy_b37 X Y  h
  · have h := ite_f h hc
    refine wp_aload_n X dX11_copy_8 0 rfl ?_
    refine wp_aload_n X dX11_copy_9 0 rfl ?_
    refine wp_iload_n X dX11_copy_10 1 rfl ?_
    refine cv_Model_noMachine X dX11_copy_11 ml_X11_222  h (Nat.le_of_ble_eq_true rfl) (by decide) (fun r11 I11 J11 h => ?_)
    refine cv_Model_refuse X dX11_copy_14 ml_X11_219  h (Nat.le_of_ble_eq_true rfl) (by decide) (fun r14 I14 J14 h => ?_)
    exact wp_iret X Y dX11_copy_17 ⟨_, rfl, h⟩

theorem c_Model_copy {l : Launch} {g : GE} (hg : Inj g) {I : MI} {J : MJ} {Q : Int32 → MI → MJ → Prop} {x1 : Int32} {x2 : Int32} {x3 : Int32} {x4 : Int32} {x5 : Int32}  (h : f_Model_copy x1 x2 x3 x4 x5 I J Q) : Cm l g yX11_copy cX11_copy 7 (Option.some Jvm.ClassFile.FieldType.int) 2 [.ref (g.1 177), .int x1, .int x2, .int x3, .int x4, .int x5] I J (Pi Q) := by
  refine Cm.of (As := fun ad => [.ref (ad 177), .int x1, .int x2, .int x3, .int x4, .int x5]) hg pn_X11 (Nat.le_of_ble_eq_true rfl) ?_
  exact (fun Γ _ _ X Y => w_Model_copy_b0 X Y  h)
theorem cv_Model_copy {Γ : Ctx} {cc : ByteArray} {nL d pc index : Nat} {own : String} {L : List (Nat × Value)} {rest : List Value} {I : MI} {J : MJ} {Q : Int32 → MI → MJ → Prop} {x1 : Int32} {x2 : Int32} {x3 : Int32} {x4 : Int32} {x5 : Int32} (X : Cx Γ cc nL own d) (hd : decode cc pc = .ok (.invokevirtual index, 3)) (hlink : Cond.methodLink own index yX11_copy ∈ TT)  (h : f_Model_copy x1 x2 x3 x4 x5 I J Q) (hrest : (rest.map fun v => v.category).sum ≤ 8) (hdd : 2 + 1 ≤ d) (kk : ∀ (r : Int32) (I' : MI) (J' : MJ), Q r I' J' → Wp Γ nL (pc + 3) L (.int r :: rest) I' J') : Wp Γ nL pc L (.int x5 :: .int x4 :: .int x3 :: .int x2 :: .int x1 :: .ref (ad Γ 177) :: rest) I J :=
  wp_callV (As := [.int x1, .int x2, .int x3, .int x4, .int x5]) (rest := rest) (T := TX11) (N := 62) X hd hlink mv_X11_copy sh_177 (by decide) rfl (c_Model_copy X.inj  h) rfl rfl hrest hdd (fun v I' J' hv => by obtain ⟨r, rfl, hq⟩ := hv; exact kk r I' J' hq)
theorem dX11_next_0 : decode cX11_next 0 = .ok (.aload_n 0, 1) := by decide +kernel
theorem dX11_next_1 : decode cX11_next 1 = .ok (.ldc 234, 2) := by decide +kernel
theorem dX11_next_3 : decode cX11_next 3 = .ok (.aload_n 0, 1) := by decide +kernel
theorem dX11_next_4 : decode cX11_next 4 = .ok (.getfield 235, 3) := by decide +kernel
theorem dX11_next_7 : decode cX11_next 7 = .ok (.imul, 1) := by decide +kernel
theorem dX11_next_8 : decode cX11_next 8 = .ok (.sipush 12345, 3) := by decide +kernel
theorem dX11_next_11 : decode cX11_next 11 = .ok (.iadd, 1) := by decide +kernel
theorem dX11_next_12 : decode cX11_next 12 = .ok (.putfield 235, 3) := by decide +kernel
theorem dX11_next_15 : decode cX11_next 15 = .ok (.aload_n 0, 1) := by decide +kernel
theorem dX11_next_16 : decode cX11_next 16 = .ok (.getfield 235, 3) := by decide +kernel
theorem dX11_next_19 : decode cX11_next 19 = .ok (.bipush 16, 2) := by decide +kernel
theorem dX11_next_21 : decode cX11_next 21 = .ok (.iushr, 1) := by decide +kernel
theorem dX11_next_22 : decode cX11_next 22 = .ok (.ldc 238, 2) := by decide +kernel
theorem dX11_next_24 : decode cX11_next 24 = .ok (.iand, 1) := by decide +kernel
theorem dX11_next_25 : decode cX11_next 25 = .ok (.iload_n 1, 1) := by decide +kernel
theorem dX11_next_26 : decode cX11_next 26 = .ok (.irem, 1) := by decide +kernel
theorem dX11_next_27 : decode cX11_next 27 = .ok (.ireturn, 1) := by decide +kernel
def f_Model_next (x1 : Int32) (I : MI) (J : MJ) (Q : Int32 → MI → MJ → Prop) : Prop :=
  ∀ I12 : MI, I12 = sI I 177 (upd (I 177) 26 ((1103515245 * (I 177 26)) + 12345)) → ¬ x1 = 0 ∧ Q (((((I12 177 26).toUInt32 >>> ((16 : Int32).toUInt32 &&& Int32.toUInt32 31)).toInt32) &&& 65535) - ((((I12 177 26).toUInt32 >>> ((16 : Int32).toUInt32 &&& Int32.toUInt32 31)).toInt32) &&& 65535) / x1 * x1) I12 J
set_option maxRecDepth 100000 in
set_option maxHeartbeats 4000000 in
theorem w_Model_next_b0 {Γ : Ctx} {Q : Int32 → MI → MJ → Prop} {x1 : Int32}  (X : Cx Γ cX11_next 2 RX11 0) (Y : Rt Γ (Pi Q) (Option.some Jvm.ClassFile.FieldType.int))   {I : MI} {J : MJ} (h : f_Model_next x1 I J Q) : Wp Γ 2 0 [(0, .ref (ad Γ 177)), (1, .int x1)] [] I J := by
  unfold f_Model_next at h
  refine wp_aload_n X dX11_next_0 0 rfl ?_
  refine wp_ldc X kc_X11_234 dX11_next_1 ?_
  refine wp_aload_n X dX11_next_3 0 rfl ?_
  refine gf_X11_235 X sh_177 dX11_next_4 ?_
  refine wp_imul X dX11_next_7 ?_
  refine wp_sipush X dX11_next_8 si_12345 ?_
  refine wp_iadd X dX11_next_11 ?_
  refine pf_X11_235 X sh_177 dX11_next_12 (fun I12 eI12 => ?_)
  have h := h I12 eI12
  refine wp_aload_n X dX11_next_15 0 rfl ?_
  refine gf_X11_235 X sh_177 dX11_next_16 ?_
  refine wp_bipush X dX11_next_19 bi_16 ?_
  refine wp_iushr X dX11_next_21 ?_
  refine wp_ldc X kc_X11_238 dX11_next_22 ?_
  refine wp_iand X dX11_next_24 ?_
  refine wp_iload_n X dX11_next_25 1 rfl ?_
  obtain ⟨hz, h⟩ := h
  refine wp_irem X dX11_next_26 hz ?_
  exact wp_iret X Y dX11_next_27 ⟨_, rfl, h⟩

theorem c_Model_next {l : Launch} {g : GE} (hg : Inj g) {I : MI} {J : MJ} {Q : Int32 → MI → MJ → Prop} {x1 : Int32}  (h : f_Model_next x1 I J Q) : Cm l g yX11_next cX11_next 2 (Option.some Jvm.ClassFile.FieldType.int) 0 [.ref (g.1 177), .int x1] I J (Pi Q) := by
  refine Cm.of (As := fun ad => [.ref (ad 177), .int x1]) hg pn_X11 (Nat.le_of_ble_eq_true rfl) ?_
  exact (fun Γ _ _ X Y => w_Model_next_b0 X Y  h)
theorem cv_Model_next {Γ : Ctx} {cc : ByteArray} {nL d pc index : Nat} {own : String} {L : List (Nat × Value)} {rest : List Value} {I : MI} {J : MJ} {Q : Int32 → MI → MJ → Prop} {x1 : Int32} (X : Cx Γ cc nL own d) (hd : decode cc pc = .ok (.invokevirtual index, 3)) (hlink : Cond.methodLink own index yX11_next ∈ TT)  (h : f_Model_next x1 I J Q) (hrest : (rest.map fun v => v.category).sum ≤ 8) (hdd : 0 + 1 ≤ d) (kk : ∀ (r : Int32) (I' : MI) (J' : MJ), Q r I' J' → Wp Γ nL (pc + 3) L (.int r :: rest) I' J') : Wp Γ nL pc L (.int x1 :: .ref (ad Γ 177) :: rest) I J :=
  wp_callV (As := [.int x1]) (rest := rest) (T := TX11) (N := 62) X hd hlink mv_X11_next sh_177 (by decide) rfl (c_Model_next X.inj  h) rfl rfl hrest hdd (fun v I' J' hv => by obtain ⟨r, rfl, hq⟩ := hv; exact kk r I' J' hq)
theorem dX11_draw_0 : decode cX11_draw 0 = .ok (.aload_n 0, 1) := by decide +kernel
theorem dX11_draw_1 : decode cX11_draw 1 = .ok (.iload_n 1, 1) := by decide +kernel
theorem dX11_draw_2 : decode cX11_draw 2 = .ok (.invokevirtual 222, 3) := by decide +kernel
theorem dX11_draw_5 : decode cX11_draw 5 = .ok (.ifCond .eq 13, 3) := by decide +kernel
theorem dX11_draw_8 : decode cX11_draw 8 = .ok (.aload_n 0, 1) := by decide +kernel
theorem dX11_draw_9 : decode cX11_draw 9 = .ok (.aload_n 0, 1) := by decide +kernel
theorem dX11_draw_10 : decode cX11_draw 10 = .ok (.iload_n 1, 1) := by decide +kernel
theorem dX11_draw_11 : decode cX11_draw 11 = .ok (.invokevirtual 222, 3) := by decide +kernel
theorem dX11_draw_14 : decode cX11_draw 14 = .ok (.invokevirtual 219, 3) := by decide +kernel
theorem dX11_draw_17 : decode cX11_draw 17 = .ok (.ireturn, 1) := by decide +kernel
theorem dX11_draw_18 : decode cX11_draw 18 = .ok (.aload_n 0, 1) := by decide +kernel
theorem dX11_draw_19 : decode cX11_draw 19 = .ok (.iload_n 2, 1) := by decide +kernel
theorem dX11_draw_20 : decode cX11_draw 20 = .ok (.putfield 235, 3) := by decide +kernel
theorem dX11_draw_23 : decode cX11_draw 23 = .ok (.iconst 0, 1) := by decide +kernel
theorem dX11_draw_24 : decode cX11_draw 24 = .ok (.istore_n 3, 1) := by decide +kernel
theorem dX11_draw_25 : decode cX11_draw 25 = .ok (.iload_n 3, 1) := by decide +kernel
theorem dX11_draw_26 : decode cX11_draw 26 = .ok (.aload_n 0, 1) := by decide +kernel
theorem dX11_draw_27 : decode cX11_draw 27 = .ok (.getfield 33, 3) := by decide +kernel
theorem dX11_draw_30 : decode cX11_draw 30 = .ok (.iload_n 1, 1) := by decide +kernel
theorem dX11_draw_31 : decode cX11_draw 31 = .ok (.iaload, 1) := by decide +kernel
theorem dX11_draw_32 : decode cX11_draw 32 = .ok (.if_icmp .ge 113, 3) := by decide +kernel
theorem dX11_draw_35 : decode cX11_draw 35 = .ok (.iconst 0, 1) := by decide +kernel
theorem dX11_draw_36 : decode cX11_draw 36 = .ok (.istore 4, 2) := by decide +kernel
theorem dX11_draw_38 : decode cX11_draw 38 = .ok (.iload 4, 2) := by decide +kernel
theorem dX11_draw_40 : decode cX11_draw 40 = .ok (.aload_n 0, 1) := by decide +kernel
theorem dX11_draw_41 : decode cX11_draw 41 = .ok (.getfield 42, 3) := by decide +kernel
theorem dX11_draw_44 : decode cX11_draw 44 = .ok (.bipush 14, 2) := by decide +kernel
theorem dX11_draw_46 : decode cX11_draw 46 = .ok (.iload_n 1, 1) := by decide +kernel
theorem dX11_draw_47 : decode cX11_draw 47 = .ok (.imul, 1) := by decide +kernel
theorem dX11_draw_48 : decode cX11_draw 48 = .ok (.iload_n 3, 1) := by decide +kernel
theorem dX11_draw_49 : decode cX11_draw 49 = .ok (.iadd, 1) := by decide +kernel
theorem dX11_draw_50 : decode cX11_draw 50 = .ok (.iaload, 1) := by decide +kernel
theorem dX11_draw_51 : decode cX11_draw 51 = .ok (.if_icmp .ge 58, 3) := by decide +kernel
theorem dX11_draw_54 : decode cX11_draw 54 = .ok (.aload_n 0, 1) := by decide +kernel
theorem dX11_draw_55 : decode cX11_draw 55 = .ok (.getfield 45, 3) := by decide +kernel
theorem dX11_draw_58 : decode cX11_draw 58 = .ok (.iload_n 1, 1) := by decide +kernel
theorem dX11_draw_59 : decode cX11_draw 59 = .ok (.iload_n 3, 1) := by decide +kernel
theorem dX11_draw_60 : decode cX11_draw 60 = .ok (.iload 4, 2) := by decide +kernel
theorem dX11_draw_62 : decode cX11_draw 62 = .ok (.invokestatic 149, 3) := by decide +kernel
theorem dX11_draw_65 : decode cX11_draw 65 = .ok (.aload_n 0, 1) := by decide +kernel
theorem dX11_draw_66 : decode cX11_draw 66 = .ok (.aload_n 0, 1) := by decide +kernel
theorem dX11_draw_67 : decode cX11_draw 67 = .ok (.getfield 33, 3) := by decide +kernel
theorem dX11_draw_70 : decode cX11_draw 70 = .ok (.iload_n 1, 1) := by decide +kernel
theorem dX11_draw_71 : decode cX11_draw 71 = .ok (.iaload, 1) := by decide +kernel
theorem dX11_draw_72 : decode cX11_draw 72 = .ok (.invokevirtual 239, 3) := by decide +kernel
theorem dX11_draw_75 : decode cX11_draw 75 = .ok (.iastore, 1) := by decide +kernel
theorem dX11_draw_76 : decode cX11_draw 76 = .ok (.aload_n 0, 1) := by decide +kernel
theorem dX11_draw_77 : decode cX11_draw 77 = .ok (.getfield 7, 3) := by decide +kernel
theorem dX11_draw_80 : decode cX11_draw 80 = .ok (.iload_n 1, 1) := by decide +kernel
theorem dX11_draw_81 : decode cX11_draw 81 = .ok (.iaload, 1) := by decide +kernel
theorem dX11_draw_82 : decode cX11_draw 82 = .ok (.iconst 3, 1) := by decide +kernel
theorem dX11_draw_83 : decode cX11_draw 83 = .ok (.if_icmp .ne 20, 3) := by decide +kernel
theorem dX11_draw_86 : decode cX11_draw 86 = .ok (.aload_n 0, 1) := by decide +kernel
theorem dX11_draw_87 : decode cX11_draw 87 = .ok (.getfield 48, 3) := by decide +kernel
theorem dX11_draw_90 : decode cX11_draw 90 = .ok (.iload_n 1, 1) := by decide +kernel
theorem dX11_draw_91 : decode cX11_draw 91 = .ok (.iload_n 3, 1) := by decide +kernel
theorem dX11_draw_92 : decode cX11_draw 92 = .ok (.iload 4, 2) := by decide +kernel
theorem dX11_draw_94 : decode cX11_draw 94 = .ok (.invokestatic 149, 3) := by decide +kernel
theorem dX11_draw_97 : decode cX11_draw 97 = .ok (.aload_n 0, 1) := by decide +kernel
theorem dX11_draw_98 : decode cX11_draw 98 = .ok (.iconst 4, 1) := by decide +kernel
theorem dX11_draw_99 : decode cX11_draw 99 = .ok (.invokevirtual 239, 3) := by decide +kernel
theorem dX11_draw_102 : decode cX11_draw 102 = .ok (.iastore, 1) := by decide +kernel
theorem dX11_draw_103 : decode cX11_draw 103 = .ok (.iinc 4 1, 3) := by decide +kernel
theorem dX11_draw_106 : decode cX11_draw 106 = .ok (.goto (-68), 3) := by decide +kernel
theorem dX11_draw_109 : decode cX11_draw 109 = .ok (.aload_n 0, 1) := by decide +kernel
theorem dX11_draw_110 : decode cX11_draw 110 = .ok (.getfield 39, 3) := by decide +kernel
theorem dX11_draw_113 : decode cX11_draw 113 = .ok (.bipush 14, 2) := by decide +kernel
theorem dX11_draw_115 : decode cX11_draw 115 = .ok (.iload_n 1, 1) := by decide +kernel
theorem dX11_draw_116 : decode cX11_draw 116 = .ok (.imul, 1) := by decide +kernel
theorem dX11_draw_117 : decode cX11_draw 117 = .ok (.iload_n 3, 1) := by decide +kernel
theorem dX11_draw_118 : decode cX11_draw 118 = .ok (.iadd, 1) := by decide +kernel
theorem dX11_draw_119 : decode cX11_draw 119 = .ok (.aload_n 0, 1) := by decide +kernel
theorem dX11_draw_120 : decode cX11_draw 120 = .ok (.aload_n 0, 1) := by decide +kernel
theorem dX11_draw_121 : decode cX11_draw 121 = .ok (.getfield 7, 3) := by decide +kernel
theorem dX11_draw_124 : decode cX11_draw 124 = .ok (.iload_n 1, 1) := by decide +kernel
theorem dX11_draw_125 : decode cX11_draw 125 = .ok (.iaload, 1) := by decide +kernel
theorem dX11_draw_126 : decode cX11_draw 126 = .ok (.ifCond .ne 7, 3) := by decide +kernel
theorem dX11_draw_129 : decode cX11_draw 129 = .ok (.iconst 2, 1) := by decide +kernel
theorem dX11_draw_130 : decode cX11_draw 130 = .ok (.goto 5, 3) := by decide +kernel
theorem dX11_draw_133 : decode cX11_draw 133 = .ok (.bipush 8, 2) := by decide +kernel
theorem dX11_draw_135 : decode cX11_draw 135 = .ok (.invokevirtual 239, 3) := by decide +kernel
theorem dX11_draw_138 : decode cX11_draw 138 = .ok (.iastore, 1) := by decide +kernel
theorem dX11_draw_139 : decode cX11_draw 139 = .ok (.iinc 3 1, 3) := by decide +kernel
theorem dX11_draw_142 : decode cX11_draw 142 = .ok (.goto (-117), 3) := by decide +kernel
theorem dX11_draw_145 : decode cX11_draw 145 = .ok (.aload_n 0, 1) := by decide +kernel
theorem dX11_draw_146 : decode cX11_draw 146 = .ok (.iconst 0, 1) := by decide +kernel
theorem dX11_draw_147 : decode cX11_draw 147 = .ok (.invokevirtual 157, 3) := by decide +kernel
theorem dX11_draw_150 : decode cX11_draw 150 = .ok (.ireturn, 1) := by decide +kernel
def f_Model_draw_b135 (x3 : Int32) (s1 : Int32) (s3 : Int32) (kh : Int32 → MI → MJ → Prop) (I : MI) (J : MJ) : Prop :=
  f_Model_next s3 I J (fun r135 I135 J135 => vp_in s1 280 ∧ ∀ I138 : MI, I138 = sI I135 187 (upd (I135 187) s1.toNatClampNeg r135) → ∀ t139 : Int32, t139 = x3 + 1 → kh t139 I138 J135)
def f_Model_draw_b103 (x4 : Int32) (kh : Int32 → MI → MJ → Prop) (I : MI) (J : MJ) : Prop :=
  ∀ t103 : Int32, t103 = x4 + 1 → kh t103 I J
def f_Model_draw_L38 (x1 : Int32) (x3 : Int32) (k109 : MI → MJ → Prop) : Nat → Int32 → MI → MJ → Prop
  | 0, _, _, _ => False
  | nf38 + 1, x4, I, J =>
  vp_in ((14 * x1) + x3) 280 ∧ (if (I 188 ((14 * x1) + x3).toNatClampNeg) ≤ x4 then k109 I J else f_Model_spot x1 x3 x4 I J (fun r62 I62 J62 => vp_in x1 20 ∧ f_Model_next (I62 185 x1.toNatClampNeg) I62 J62 (fun r72 I72 J72 => vp_in r62 1120 ∧ ∀ I75 : MI, I75 = sI I72 189 (upd (I72 189) r62.toNatClampNeg r72) → vp_in x1 16 ∧ (if (I75 178 x1.toNatClampNeg) = 3 then f_Model_spot x1 x3 x4 I75 J72 (fun r94 I94 J94 => f_Model_next (4 : Int32) I94 J94 (fun r99 I99 J99 => vp_in r94 1120 ∧ ∀ I102 : MI, I102 = sI I99 190 (upd (I99 190) r94.toNatClampNeg r99) → f_Model_draw_b103 x4 (f_Model_draw_L38 x1 x3 k109 nf38) I102 J99)) else f_Model_draw_b103 x4 (f_Model_draw_L38 x1 x3 k109 nf38) I75 J72))))
def f_Model_draw_L25 (x1 : Int32) (k145 : MI → MJ → Prop) : Nat → Int32 → MI → MJ → Prop
  | 0, _, _, _ => False
  | nf25 + 1, x3, I, J =>
  vp_in x1 20 ∧ (if (I 185 x1.toNatClampNeg) ≤ x3 then k145 I J else ∃ n, f_Model_draw_L38 x1 x3 (fun (I : MI) (J : MJ) => vp_in x1 16 ∧ (if (I 178 x1.toNatClampNeg) = 0 then f_Model_draw_b135 x3 ((14 * x1) + x3) 2 (f_Model_draw_L25 x1 k145 nf25) I J else f_Model_draw_b135 x3 ((14 * x1) + x3) 8 (f_Model_draw_L25 x1 k145 nf25) I J)) n 0 I J)
def f_Model_draw (x1 : Int32) (x2 : Int32) (I : MI) (J : MJ) (Q : Int32 → MI → MJ → Prop) : Prop :=
  f_Model_noMachine x1 I J (fun r2 I2 J2 => (if r2 = 0 then ∀ I20 : MI, I20 = sI I2 177 (upd (I2 177) 26 x2) → ∃ n, f_Model_draw_L25 x1 (fun (I : MI) (J : MJ) => f_Model_done (0 : Int32) I J (fun r147 I147 J147 => Q r147 I147 J147)) n 0 I20 J2 else f_Model_noMachine x1 I2 J2 (fun r11 I11 J11 => f_Model_refuse r11 I11 J11 (fun r14 I14 J14 => Q r14 I14 J14))))
set_option maxRecDepth 100000 in
set_option maxHeartbeats 4000000 in
theorem w_Model_draw_b135 {Γ : Ctx} {Q : Int32 → MI → MJ → Prop} {x1 : Int32} {x3 : Int32} {s1 : Int32} {s3 : Int32} {kh : Int32 → MI → MJ → Prop} (X : Cx Γ cX11_draw 5 RX11 2) (Y : Rt Γ (Pi Q) (Option.some Jvm.ClassFile.FieldType.int))  (hkh : ∀ (x3 : Int32) (I : MI) (J : MJ), kh x3 I J → Wp Γ 5 25 [(0, .ref (ad Γ 177)), (1, .int x1), (3, .int x3)] [] I J) {I : MI} {J : MJ} (h : f_Model_draw_b135 x3 s1 s3 kh I J) : Wp Γ 5 135 [(0, .ref (ad Γ 177)), (1, .int x1), (3, .int x3)] [.int s3, .ref (ad Γ 177), .int s1, .ref (ad Γ 187)] I J := by
  unfold f_Model_draw_b135 at h
  refine cv_Model_next X dX11_draw_135 ml_X11_239  h (Nat.le_of_ble_eq_true rfl) (by decide) (fun r135 I135 J135 h => ?_)
  obtain ⟨hb138, h⟩ := h
  refine wp_iast X sh_187 hb138 dX11_draw_138 ?_
  refine wp_memI (fun I138 eI138 => ?_)
  have h := h I138 eI138
  obtain ⟨t139, et139⟩ : ∃ y : Int32, y = x3 + 1 := ⟨_, rfl⟩
  have h := h t139 et139
  refine wp_iinc (L' := [(3, .int t139), (0, .ref (ad Γ 177)), (1, .int x1)]) X dX11_draw_139 2 rfl (ii_1 et139) (by decide) rfl ?_
  refine wp_goto (tgt := 25) X dX11_draw_142 (by decide) ?_
  refine wp_sub X [1, 2, 0] rfl ?_
  exact hkh _ _ _ h

set_option maxRecDepth 100000 in
set_option maxHeartbeats 4000000 in
theorem w_Model_draw_b103 {Γ : Ctx} {Q : Int32 → MI → MJ → Prop} {x1 : Int32} {x3 : Int32} {x4 : Int32} {kh : Int32 → MI → MJ → Prop} (X : Cx Γ cX11_draw 5 RX11 2) (Y : Rt Γ (Pi Q) (Option.some Jvm.ClassFile.FieldType.int))  (hkh : ∀ (x4 : Int32) (I : MI) (J : MJ), kh x4 I J → Wp Γ 5 38 [(0, .ref (ad Γ 177)), (1, .int x1), (3, .int x3), (4, .int x4)] [] I J) {I : MI} {J : MJ} (h : f_Model_draw_b103 x4 kh I J) : Wp Γ 5 103 [(0, .ref (ad Γ 177)), (1, .int x1), (3, .int x3), (4, .int x4)] [] I J := by
  unfold f_Model_draw_b103 at h
  obtain ⟨t103, et103⟩ : ∃ y : Int32, y = x4 + 1 := ⟨_, rfl⟩
  have h := h t103 et103
  refine wp_iinc (L' := [(4, .int t103), (0, .ref (ad Γ 177)), (1, .int x1), (3, .int x3)]) X dX11_draw_103 3 rfl (ii_1 et103) (by decide) rfl ?_
  refine wp_goto (tgt := 38) X dX11_draw_106 (by decide) ?_
  refine wp_sub X [1, 2, 3, 0] rfl ?_
  exact hkh _ _ _ h

set_option maxRecDepth 100000 in
set_option maxHeartbeats 4000000 in
theorem w_Model_draw_L38 {Γ : Ctx} {Q : Int32 → MI → MJ → Prop} {x1 : Int32} {x3 : Int32} {k109 : MI → MJ → Prop} (X : Cx Γ cX11_draw 5 RX11 2) (Y : Rt Γ (Pi Q) (Option.some Jvm.ClassFile.FieldType.int))  (hk109 : ∀ (I : MI) (J : MJ), k109 I J → Wp Γ 5 109 [(0, .ref (ad Γ 177)), (1, .int x1), (3, .int x3)] [] I J) : ∀ (n : Nat) (x4 : Int32) (I : MI) (J : MJ), f_Model_draw_L38 x1 x3 k109 n x4 I J → Wp Γ 5 38 [(0, .ref (ad Γ 177)), (1, .int x1), (3, .int x3), (4, .int x4)] [] I J := by
  intro n
  induction n with
  | zero => intro x4 I J h; exact absurd h (by simp [f_Model_draw_L38])
  | succ n ih =>
  intro x4 I J h
  unfold f_Model_draw_L38 at h
  refine wp_iload X dX11_draw_38 3 rfl ?_
  refine wp_aload_n X dX11_draw_40 0 rfl ?_
  refine gf_X11_42 (o' := 188) X sh_177 rfl dX11_draw_41 ?_
  refine wp_bipush X dX11_draw_44 bi_14 ?_
  refine wp_iload_n X dX11_draw_46 1 rfl ?_
  refine wp_imul X dX11_draw_47 ?_
  refine wp_iload_n X dX11_draw_48 2 rfl ?_
  refine wp_iadd X dX11_draw_49 ?_
  obtain ⟨hb50, h⟩ := h
  refine wp_iald X sh_188 hb50 dX11_draw_50 ?_
  refine wp_icmp_ge (tgt := 109) X dX11_draw_51 (by decide) (fun hc => ?_) (fun hc => ?_)
  · have h := ite_t h hc
    refine wp_sub X [0, 1, 2] rfl ?_
    exact hk109 _ _ h
  · have h := ite_f h hc
    refine wp_aload_n X dX11_draw_54 0 rfl ?_
    refine gf_X11_45 (o' := 189) X sh_177 rfl dX11_draw_55 ?_
    refine wp_iload_n X dX11_draw_58 1 rfl ?_
    refine wp_iload_n X dX11_draw_59 2 rfl ?_
    refine wp_iload X dX11_draw_60 3 rfl ?_
    refine cs_Model_spot X dX11_draw_62 ml_X11_149  h (Nat.le_of_ble_eq_true rfl) (by decide) (fun r62 I62 J62 h => ?_)
    refine wp_aload_n X dX11_draw_65 0 rfl ?_
    refine wp_aload_n X dX11_draw_66 0 rfl ?_
    refine gf_X11_33 (o' := 185) X sh_177 rfl dX11_draw_67 ?_
    refine wp_iload_n X dX11_draw_70 1 rfl ?_
    obtain ⟨hb71, h⟩ := h
    refine wp_iald X sh_185 hb71 dX11_draw_71 ?_
    refine cv_Model_next X dX11_draw_72 ml_X11_239  h (Nat.le_of_ble_eq_true rfl) (by decide) (fun r72 I72 J72 h => ?_)
    obtain ⟨hb75, h⟩ := h
    refine wp_iast X sh_189 hb75 dX11_draw_75 ?_
    refine wp_memI (fun I75 eI75 => ?_)
    have h := h I75 eI75
    refine wp_aload_n X dX11_draw_76 0 rfl ?_
    refine gf_X11_7 (o' := 178) X sh_177 rfl dX11_draw_77 ?_
    refine wp_iload_n X dX11_draw_80 1 rfl ?_
    obtain ⟨hb81, h⟩ := h
    refine wp_iald X sh_178 hb81 dX11_draw_81 ?_
    refine wp_iconst X dX11_draw_82 ic_3 ?_
    refine wp_icmp_ne (tgt := 103) X dX11_draw_83 (by decide) (fun hc => ?_) (fun hc => ?_)
    · have h := ite_f h hc
      exact w_Model_draw_b103 X Y ih h
    · have h := ite_t h hc
      refine wp_aload_n X dX11_draw_86 0 rfl ?_
      refine gf_X11_48 (o' := 190) X sh_177 rfl dX11_draw_87 ?_
      refine wp_iload_n X dX11_draw_90 1 rfl ?_
      refine wp_iload_n X dX11_draw_91 2 rfl ?_
      refine wp_iload X dX11_draw_92 3 rfl ?_
      refine cs_Model_spot X dX11_draw_94 ml_X11_149  h (Nat.le_of_ble_eq_true rfl) (by decide) (fun r94 I94 J94 h => ?_)
      refine wp_aload_n X dX11_draw_97 0 rfl ?_
      refine wp_iconst X dX11_draw_98 ic_4 ?_
      refine cv_Model_next X dX11_draw_99 ml_X11_239  h (Nat.le_of_ble_eq_true rfl) (by decide) (fun r99 I99 J99 h => ?_)
      obtain ⟨hb102, h⟩ := h
      refine wp_iast X sh_190 hb102 dX11_draw_102 ?_
      refine wp_memI (fun I102 eI102 => ?_)
      have h := h I102 eI102
      exact w_Model_draw_b103 X Y ih h

set_option maxRecDepth 100000 in
set_option maxHeartbeats 4000000 in
theorem w_Model_draw_L25 {Γ : Ctx} {Q : Int32 → MI → MJ → Prop} {x1 : Int32} {k145 : MI → MJ → Prop} (X : Cx Γ cX11_draw 5 RX11 2) (Y : Rt Γ (Pi Q) (Option.some Jvm.ClassFile.FieldType.int))  (hk145 : ∀ (I : MI) (J : MJ), k145 I J → Wp Γ 5 145 [(0, .ref (ad Γ 177))] [] I J) : ∀ (n : Nat) (x3 : Int32) (I : MI) (J : MJ), f_Model_draw_L25 x1 k145 n x3 I J → Wp Γ 5 25 [(0, .ref (ad Γ 177)), (1, .int x1), (3, .int x3)] [] I J := by
  intro n
  induction n with
  | zero => intro x3 I J h; exact absurd h (by simp [f_Model_draw_L25])
  | succ n ih =>
  intro x3 I J h
  unfold f_Model_draw_L25 at h
  refine wp_iload_n X dX11_draw_25 2 rfl ?_
  refine wp_aload_n X dX11_draw_26 0 rfl ?_
  refine gf_X11_33 (o' := 185) X sh_177 rfl dX11_draw_27 ?_
  refine wp_iload_n X dX11_draw_30 1 rfl ?_
  obtain ⟨hb31, h⟩ := h
  refine wp_iald X sh_185 hb31 dX11_draw_31 ?_
  refine wp_icmp_ge (tgt := 145) X dX11_draw_32 (by decide) (fun hc => ?_) (fun hc => ?_)
  · have h := ite_t h hc
    refine wp_sub X [0] rfl ?_
    exact hk145 _ _ h
  · have h := ite_f h hc
    refine wp_iconst X dX11_draw_35 ic_0 ?_
    refine wp_istore (L' := [(4, .int 0), (0, .ref (ad Γ 177)), (1, .int x1), (3, .int x3)]) X dX11_draw_36 (by decide) rfl ?_
    obtain ⟨n, h⟩ := h
    refine wp_sub X [1, 2, 3, 0] rfl ?_
    refine w_Model_draw_L38 X Y  ?_ n _ _ _ h
    · intro I J h
      refine wp_aload_n X dX11_draw_109 0 rfl ?_
      refine gf_X11_39 (o' := 187) X sh_177 rfl dX11_draw_110 ?_
      refine wp_bipush X dX11_draw_113 bi_14 ?_
      refine wp_iload_n X dX11_draw_115 1 rfl ?_
      refine wp_imul X dX11_draw_116 ?_
      refine wp_iload_n X dX11_draw_117 2 rfl ?_
      refine wp_iadd X dX11_draw_118 ?_
      refine wp_aload_n X dX11_draw_119 0 rfl ?_
      refine wp_aload_n X dX11_draw_120 0 rfl ?_
      refine gf_X11_7 (o' := 178) X sh_177 rfl dX11_draw_121 ?_
      refine wp_iload_n X dX11_draw_124 1 rfl ?_
      obtain ⟨hb125, h⟩ := h
      refine wp_iald X sh_178 hb125 dX11_draw_125 ?_
      refine wp_if_ne (tgt := 133) X dX11_draw_126 (by decide) (fun hc => ?_) (fun hc => ?_)
      · have h := ite_f h hc
        refine wp_bipush X dX11_draw_133 bi_8 ?_
        exact w_Model_draw_b135 X Y ih h
      · have h := ite_t h hc
        refine wp_iconst X dX11_draw_129 ic_2 ?_
        refine wp_goto (tgt := 135) X dX11_draw_130 (by decide) ?_
        exact w_Model_draw_b135 X Y ih h

set_option maxRecDepth 100000 in
set_option maxHeartbeats 4000000 in
theorem w_Model_draw_b0 {Γ : Ctx} {Q : Int32 → MI → MJ → Prop} {x1 : Int32} {x2 : Int32}  (X : Cx Γ cX11_draw 5 RX11 2) (Y : Rt Γ (Pi Q) (Option.some Jvm.ClassFile.FieldType.int))   {I : MI} {J : MJ} (h : f_Model_draw x1 x2 I J Q) : Wp Γ 5 0 [(0, .ref (ad Γ 177)), (1, .int x1), (2, .int x2)] [] I J := by
  unfold f_Model_draw at h
  refine wp_aload_n X dX11_draw_0 0 rfl ?_
  refine wp_iload_n X dX11_draw_1 1 rfl ?_
  refine cv_Model_noMachine X dX11_draw_2 ml_X11_222  h (Nat.le_of_ble_eq_true rfl) (by decide) (fun r2 I2 J2 h => ?_)
  refine wp_if_eq (tgt := 18) X dX11_draw_5 (by decide) (fun hc => ?_) (fun hc => ?_)
  · have h := ite_t h hc
    refine wp_aload_n X dX11_draw_18 0 rfl ?_
    refine wp_iload_n X dX11_draw_19 2 rfl ?_
    refine pf_X11_235 X sh_177 dX11_draw_20 (fun I20 eI20 => ?_)
    have h := h I20 eI20
    refine wp_iconst X dX11_draw_23 ic_0 ?_
    refine wp_istore_n (L' := [(3, .int 0), (0, .ref (ad Γ 177)), (1, .int x1), (2, .int x2)]) X dX11_draw_24 rfl (by decide) rfl ?_
    obtain ⟨n, h⟩ := h
    refine wp_sub X [1, 2, 0] rfl ?_
    refine w_Model_draw_L25 X Y  ?_ n _ _ _ h
    · intro I J h
      refine wp_aload_n X dX11_draw_145 0 rfl ?_
      refine wp_iconst X dX11_draw_146 ic_0 ?_
      refine cv_Model_done X dX11_draw_147 ml_X11_157  h (Nat.le_of_ble_eq_true rfl) (by decide) (fun r147 I147 J147 h => ?_)
      exact wp_iret X Y dX11_draw_150 ⟨_, rfl, h⟩
  · have h := ite_f h hc
    refine wp_aload_n X dX11_draw_8 0 rfl ?_
    refine wp_aload_n X dX11_draw_9 0 rfl ?_
    refine wp_iload_n X dX11_draw_10 1 rfl ?_
    refine cv_Model_noMachine X dX11_draw_11 ml_X11_222  h (Nat.le_of_ble_eq_true rfl) (by decide) (fun r11 I11 J11 h => ?_)
    refine cv_Model_refuse X dX11_draw_14 ml_X11_219  h (Nat.le_of_ble_eq_true rfl) (by decide) (fun r14 I14 J14 h => ?_)
    exact wp_iret X Y dX11_draw_17 ⟨_, rfl, h⟩

theorem c_Model_draw {l : Launch} {g : GE} (hg : Inj g) {I : MI} {J : MJ} {Q : Int32 → MI → MJ → Prop} {x1 : Int32} {x2 : Int32}  (h : f_Model_draw x1 x2 I J Q) : Cm l g yX11_draw cX11_draw 5 (Option.some Jvm.ClassFile.FieldType.int) 2 [.ref (g.1 177), .int x1, .int x2] I J (Pi Q) := by
  refine Cm.of (As := fun ad => [.ref (ad 177), .int x1, .int x2]) hg pn_X11 (Nat.le_of_ble_eq_true rfl) ?_
  exact (fun Γ _ _ X Y => w_Model_draw_b0 X Y  h)
theorem cv_Model_draw {Γ : Ctx} {cc : ByteArray} {nL d pc index : Nat} {own : String} {L : List (Nat × Value)} {rest : List Value} {I : MI} {J : MJ} {Q : Int32 → MI → MJ → Prop} {x1 : Int32} {x2 : Int32} (X : Cx Γ cc nL own d) (hd : decode cc pc = .ok (.invokevirtual index, 3)) (hlink : Cond.methodLink own index yX11_draw ∈ TT)  (h : f_Model_draw x1 x2 I J Q) (hrest : (rest.map fun v => v.category).sum ≤ 8) (hdd : 2 + 1 ≤ d) (kk : ∀ (r : Int32) (I' : MI) (J' : MJ), Q r I' J' → Wp Γ nL (pc + 3) L (.int r :: rest) I' J') : Wp Γ nL pc L (.int x2 :: .int x1 :: .ref (ad Γ 177) :: rest) I J :=
  wp_callV (As := [.int x1, .int x2]) (rest := rest) (T := TX11) (N := 62) X hd hlink mv_X11_draw sh_177 (by decide) rfl (c_Model_draw X.inj  h) rfl rfl hrest hdd (fun v I' J' hv => by obtain ⟨r, rfl, hq⟩ := hv; exact kk r I' J' hq)
theorem dX11_lift_0 : decode cX11_lift 0 = .ok (.iload_n 1, 1) := by decide +kernel
theorem dX11_lift_1 : decode cX11_lift 1 = .ok (.invokestatic 145, 3) := by decide +kernel
theorem dX11_lift_4 : decode cX11_lift 4 = .ok (.ifCond .ne 9, 3) := by decide +kernel
theorem dX11_lift_7 : decode cX11_lift 7 = .ok (.aload_n 0, 1) := by decide +kernel
theorem dX11_lift_8 : decode cX11_lift 8 = .ok (.iconst 2, 1) := by decide +kernel
theorem dX11_lift_9 : decode cX11_lift 9 = .ok (.invokevirtual 219, 3) := by decide +kernel
theorem dX11_lift_12 : decode cX11_lift 12 = .ok (.ireturn, 1) := by decide +kernel
theorem dX11_lift_13 : decode cX11_lift 13 = .ok (.aload_n 0, 1) := by decide +kernel
theorem dX11_lift_14 : decode cX11_lift 14 = .ok (.getfield 7, 3) := by decide +kernel
theorem dX11_lift_17 : decode cX11_lift 17 = .ok (.iload_n 1, 1) := by decide +kernel
theorem dX11_lift_18 : decode cX11_lift 18 = .ok (.iaload, 1) := by decide +kernel
theorem dX11_lift_19 : decode cX11_lift 19 = .ok (.ifCond .ge 9, 3) := by decide +kernel
theorem dX11_lift_22 : decode cX11_lift 22 = .ok (.aload_n 0, 1) := by decide +kernel
theorem dX11_lift_23 : decode cX11_lift 23 = .ok (.iconst 1, 1) := by decide +kernel
theorem dX11_lift_24 : decode cX11_lift 24 = .ok (.invokevirtual 219, 3) := by decide +kernel
theorem dX11_lift_27 : decode cX11_lift 27 = .ok (.ireturn, 1) := by decide +kernel
theorem dX11_lift_28 : decode cX11_lift 28 = .ok (.aload_n 0, 1) := by decide +kernel
theorem dX11_lift_29 : decode cX11_lift 29 = .ok (.getfield 7, 3) := by decide +kernel
theorem dX11_lift_32 : decode cX11_lift 32 = .ok (.iload_n 1, 1) := by decide +kernel
theorem dX11_lift_33 : decode cX11_lift 33 = .ok (.iconst (-1), 1) := by decide +kernel
theorem dX11_lift_34 : decode cX11_lift 34 = .ok (.iastore, 1) := by decide +kernel
theorem dX11_lift_35 : decode cX11_lift 35 = .ok (.aload_n 0, 1) := by decide +kernel
theorem dX11_lift_36 : decode cX11_lift 36 = .ok (.iconst 0, 1) := by decide +kernel
theorem dX11_lift_37 : decode cX11_lift 37 = .ok (.invokevirtual 157, 3) := by decide +kernel
theorem dX11_lift_40 : decode cX11_lift 40 = .ok (.ireturn, 1) := by decide +kernel
def f_Model_lift (x1 : Int32) (I : MI) (J : MJ) (Q : Int32 → MI → MJ → Prop) : Prop :=
  f_Model_isPlace x1 I J (fun r1 I1 J1 => (if r1 = 0 then f_Model_refuse (2 : Int32) I1 J1 (fun r9 I9 J9 => Q r9 I9 J9) else vp_in x1 16 ∧ (if 0 ≤ (I1 178 x1.toNatClampNeg) then vp_in x1 16 ∧ ∀ I34 : MI, I34 = sI I1 178 (upd (I1 178) x1.toNatClampNeg (-1)) → f_Model_done (0 : Int32) I34 J1 (fun r37 I37 J37 => Q r37 I37 J37) else f_Model_refuse (1 : Int32) I1 J1 (fun r24 I24 J24 => Q r24 I24 J24))))
set_option maxRecDepth 100000 in
set_option maxHeartbeats 4000000 in
theorem w_Model_lift_b0 {Γ : Ctx} {Q : Int32 → MI → MJ → Prop} {x1 : Int32}  (X : Cx Γ cX11_lift 2 RX11 1) (Y : Rt Γ (Pi Q) (Option.some Jvm.ClassFile.FieldType.int))   {I : MI} {J : MJ} (h : f_Model_lift x1 I J Q) : Wp Γ 2 0 [(0, .ref (ad Γ 177)), (1, .int x1)] [] I J := by
  unfold f_Model_lift at h
  refine wp_iload_n X dX11_lift_0 1 rfl ?_
  refine cs_Model_isPlace X dX11_lift_1 ml_X11_145  h (Nat.le_of_ble_eq_true rfl) (by decide) (fun r1 I1 J1 h => ?_)
  refine wp_if_ne (tgt := 13) X dX11_lift_4 (by decide) (fun hc => ?_) (fun hc => ?_)
  · have h := ite_f h hc
    refine wp_aload_n X dX11_lift_13 0 rfl ?_
    refine gf_X11_7 (o' := 178) X sh_177 rfl dX11_lift_14 ?_
    refine wp_iload_n X dX11_lift_17 1 rfl ?_
    obtain ⟨hb18, h⟩ := h
    refine wp_iald X sh_178 hb18 dX11_lift_18 ?_
    refine wp_if_ge (tgt := 28) X dX11_lift_19 (by decide) (fun hc => ?_) (fun hc => ?_)
    · have h := ite_t h hc
      refine wp_aload_n X dX11_lift_28 0 rfl ?_
      refine gf_X11_7 (o' := 178) X sh_177 rfl dX11_lift_29 ?_
      refine wp_iload_n X dX11_lift_32 1 rfl ?_
      refine wp_iconst X dX11_lift_33 ic_m1 ?_
      obtain ⟨hb34, h⟩ := h
      refine wp_iast X sh_178 hb34 dX11_lift_34 ?_
      refine wp_memI (fun I34 eI34 => ?_)
      have h := h I34 eI34
      refine wp_aload_n X dX11_lift_35 0 rfl ?_
      refine wp_iconst X dX11_lift_36 ic_0 ?_
      refine cv_Model_done X dX11_lift_37 ml_X11_157  h (Nat.le_of_ble_eq_true rfl) (by decide) (fun r37 I37 J37 h => ?_)
      exact wp_iret X Y dX11_lift_40 ⟨_, rfl, h⟩
    · have h := ite_f h hc
      refine wp_aload_n X dX11_lift_22 0 rfl ?_
      refine wp_iconst X dX11_lift_23 ic_1 ?_
      refine cv_Model_refuse X dX11_lift_24 ml_X11_219  h (Nat.le_of_ble_eq_true rfl) (by decide) (fun r24 I24 J24 h => ?_)
      exact wp_iret X Y dX11_lift_27 ⟨_, rfl, h⟩
  · have h := ite_t h hc
    refine wp_aload_n X dX11_lift_7 0 rfl ?_
    refine wp_iconst X dX11_lift_8 ic_2 ?_
    refine cv_Model_refuse X dX11_lift_9 ml_X11_219  h (Nat.le_of_ble_eq_true rfl) (by decide) (fun r9 I9 J9 h => ?_)
    exact wp_iret X Y dX11_lift_12 ⟨_, rfl, h⟩

theorem c_Model_lift {l : Launch} {g : GE} (hg : Inj g) {I : MI} {J : MJ} {Q : Int32 → MI → MJ → Prop} {x1 : Int32}  (h : f_Model_lift x1 I J Q) : Cm l g yX11_lift cX11_lift 2 (Option.some Jvm.ClassFile.FieldType.int) 1 [.ref (g.1 177), .int x1] I J (Pi Q) := by
  refine Cm.of (As := fun ad => [.ref (ad 177), .int x1]) hg pn_X11 (Nat.le_of_ble_eq_true rfl) ?_
  exact (fun Γ _ _ X Y => w_Model_lift_b0 X Y  h)
theorem cv_Model_lift {Γ : Ctx} {cc : ByteArray} {nL d pc index : Nat} {own : String} {L : List (Nat × Value)} {rest : List Value} {I : MI} {J : MJ} {Q : Int32 → MI → MJ → Prop} {x1 : Int32} (X : Cx Γ cc nL own d) (hd : decode cc pc = .ok (.invokevirtual index, 3)) (hlink : Cond.methodLink own index yX11_lift ∈ TT)  (h : f_Model_lift x1 I J Q) (hrest : (rest.map fun v => v.category).sum ≤ 8) (hdd : 1 + 1 ≤ d) (kk : ∀ (r : Int32) (I' : MI) (J' : MJ), Q r I' J' → Wp Γ nL (pc + 3) L (.int r :: rest) I' J') : Wp Γ nL pc L (.int x1 :: .ref (ad Γ 177) :: rest) I J :=
  wp_callV (As := [.int x1]) (rest := rest) (T := TX11) (N := 62) X hd hlink mv_X11_lift sh_177 (by decide) rfl (c_Model_lift X.inj  h) rfl rfl hrest hdd (fun v I' J' hv => by obtain ⟨r, rfl, hq⟩ := hv; exact kk r I' J' hq)
theorem dX11_kind_0 : decode cX11_kind 0 = .ok (.iload_n 1, 1) := by decide +kernel
theorem dX11_kind_1 : decode cX11_kind 1 = .ok (.invokestatic 145, 3) := by decide +kernel
theorem dX11_kind_4 : decode cX11_kind 4 = .ok (.ifCond .eq 12, 3) := by decide +kernel
theorem dX11_kind_7 : decode cX11_kind 7 = .ok (.aload_n 0, 1) := by decide +kernel
theorem dX11_kind_8 : decode cX11_kind 8 = .ok (.getfield 7, 3) := by decide +kernel
theorem dX11_kind_11 : decode cX11_kind 11 = .ok (.iload_n 1, 1) := by decide +kernel
theorem dX11_kind_12 : decode cX11_kind 12 = .ok (.iaload, 1) := by decide +kernel
theorem dX11_kind_13 : decode cX11_kind 13 = .ok (.goto 4, 3) := by decide +kernel
theorem dX11_kind_16 : decode cX11_kind 16 = .ok (.iconst (-1), 1) := by decide +kernel
theorem dX11_kind_17 : decode cX11_kind 17 = .ok (.ireturn, 1) := by decide +kernel
def f_Model_kind (x1 : Int32) (I : MI) (J : MJ) (Q : Int32 → MI → MJ → Prop) : Prop :=
  f_Model_isPlace x1 I J (fun r1 I1 J1 => (if r1 = 0 then Q (-1) I1 J1 else vp_in x1 16 ∧ Q (I1 178 x1.toNatClampNeg) I1 J1))
set_option maxRecDepth 100000 in
set_option maxHeartbeats 4000000 in
theorem w_Model_kind_b0 {Γ : Ctx} {Q : Int32 → MI → MJ → Prop} {x1 : Int32}  (X : Cx Γ cX11_kind 2 RX11 1) (Y : Rt Γ (Pi Q) (Option.some Jvm.ClassFile.FieldType.int))   {I : MI} {J : MJ} (h : f_Model_kind x1 I J Q) : Wp Γ 2 0 [(0, .ref (ad Γ 177)), (1, .int x1)] [] I J := by
  unfold f_Model_kind at h
  refine wp_iload_n X dX11_kind_0 1 rfl ?_
  refine cs_Model_isPlace X dX11_kind_1 ml_X11_145  h (Nat.le_of_ble_eq_true rfl) (by decide) (fun r1 I1 J1 h => ?_)
  refine wp_if_eq (tgt := 16) X dX11_kind_4 (by decide) (fun hc => ?_) (fun hc => ?_)
  · have h := ite_t h hc
    refine wp_iconst X dX11_kind_16 ic_m1 ?_
    exact wp_iret X Y dX11_kind_17 ⟨_, rfl, h⟩
  · have h := ite_f h hc
    refine wp_aload_n X dX11_kind_7 0 rfl ?_
    refine gf_X11_7 (o' := 178) X sh_177 rfl dX11_kind_8 ?_
    refine wp_iload_n X dX11_kind_11 1 rfl ?_
    obtain ⟨hb12, h⟩ := h
    refine wp_iald X sh_178 hb12 dX11_kind_12 ?_
    refine wp_goto (tgt := 17) X dX11_kind_13 (by decide) ?_
    exact wp_iret X Y dX11_kind_17 ⟨_, rfl, h⟩

theorem c_Model_kind {l : Launch} {g : GE} (hg : Inj g) {I : MI} {J : MJ} {Q : Int32 → MI → MJ → Prop} {x1 : Int32}  (h : f_Model_kind x1 I J Q) : Cm l g yX11_kind cX11_kind 2 (Option.some Jvm.ClassFile.FieldType.int) 1 [.ref (g.1 177), .int x1] I J (Pi Q) := by
  refine Cm.of (As := fun ad => [.ref (ad 177), .int x1]) hg pn_X11 (Nat.le_of_ble_eq_true rfl) ?_
  exact (fun Γ _ _ X Y => w_Model_kind_b0 X Y  h)
theorem cv_Model_kind {Γ : Ctx} {cc : ByteArray} {nL d pc index : Nat} {own : String} {L : List (Nat × Value)} {rest : List Value} {I : MI} {J : MJ} {Q : Int32 → MI → MJ → Prop} {x1 : Int32} (X : Cx Γ cc nL own d) (hd : decode cc pc = .ok (.invokevirtual index, 3)) (hlink : Cond.methodLink own index yX11_kind ∈ TT)  (h : f_Model_kind x1 I J Q) (hrest : (rest.map fun v => v.category).sum ≤ 8) (hdd : 1 + 1 ≤ d) (kk : ∀ (r : Int32) (I' : MI) (J' : MJ), Q r I' J' → Wp Γ nL (pc + 3) L (.int r :: rest) I' J') : Wp Γ nL pc L (.int x1 :: .ref (ad Γ 177) :: rest) I J :=
  wp_callV (As := [.int x1]) (rest := rest) (T := TX11) (N := 62) X hd hlink mv_X11_kind sh_177 (by decide) rfl (c_Model_kind X.inj  h) rfl rfl hrest hdd (fun v I' J' hv => by obtain ⟨r, rfl, hq⟩ := hv; exact kk r I' J' hq)
theorem dX11_size_0 : decode cX11_size 0 = .ok (.iload_n 1, 1) := by decide +kernel
theorem dX11_size_1 : decode cX11_size 1 = .ok (.invokestatic 145, 3) := by decide +kernel
theorem dX11_size_4 : decode cX11_size 4 = .ok (.ifCond .eq 21, 3) := by decide +kernel
theorem dX11_size_7 : decode cX11_size 7 = .ok (.aload_n 0, 1) := by decide +kernel
theorem dX11_size_8 : decode cX11_size 8 = .ok (.getfield 7, 3) := by decide +kernel
theorem dX11_size_11 : decode cX11_size 11 = .ok (.iload_n 1, 1) := by decide +kernel
theorem dX11_size_12 : decode cX11_size 12 = .ok (.iaload, 1) := by decide +kernel
theorem dX11_size_13 : decode cX11_size 13 = .ok (.ifCond .lt 12, 3) := by decide +kernel
theorem dX11_size_16 : decode cX11_size 16 = .ok (.iload_n 2, 1) := by decide +kernel
theorem dX11_size_17 : decode cX11_size 17 = .ok (.ifCond .lt 8, 3) := by decide +kernel
theorem dX11_size_20 : decode cX11_size 20 = .ok (.iload_n 2, 1) := by decide +kernel
theorem dX11_size_21 : decode cX11_size 21 = .ok (.iconst 1, 1) := by decide +kernel
theorem dX11_size_22 : decode cX11_size 22 = .ok (.if_icmp .le 5, 3) := by decide +kernel
theorem dX11_size_25 : decode cX11_size 25 = .ok (.iconst (-1), 1) := by decide +kernel
theorem dX11_size_26 : decode cX11_size 26 = .ok (.ireturn, 1) := by decide +kernel
theorem dX11_size_27 : decode cX11_size 27 = .ok (.aload_n 0, 1) := by decide +kernel
theorem dX11_size_28 : decode cX11_size 28 = .ok (.getfield 7, 3) := by decide +kernel
theorem dX11_size_31 : decode cX11_size 31 = .ok (.iload_n 1, 1) := by decide +kernel
theorem dX11_size_32 : decode cX11_size 32 = .ok (.iaload, 1) := by decide +kernel
theorem dX11_size_33 : decode cX11_size 33 = .ok (.iconst 4, 1) := by decide +kernel
theorem dX11_size_34 : decode cX11_size 34 = .ok (.if_icmp .ge 23, 3) := by decide +kernel
theorem dX11_size_37 : decode cX11_size 37 = .ok (.iload_n 2, 1) := by decide +kernel
theorem dX11_size_38 : decode cX11_size 38 = .ok (.ifCond .ne 12, 3) := by decide +kernel
theorem dX11_size_41 : decode cX11_size 41 = .ok (.aload_n 0, 1) := by decide +kernel
theorem dX11_size_42 : decode cX11_size 42 = .ok (.getfield 33, 3) := by decide +kernel
theorem dX11_size_45 : decode cX11_size 45 = .ok (.iload_n 1, 1) := by decide +kernel
theorem dX11_size_46 : decode cX11_size 46 = .ok (.iaload, 1) := by decide +kernel
theorem dX11_size_47 : decode cX11_size 47 = .ok (.goto 9, 3) := by decide +kernel
theorem dX11_size_50 : decode cX11_size 50 = .ok (.aload_n 0, 1) := by decide +kernel
theorem dX11_size_51 : decode cX11_size 51 = .ok (.getfield 36, 3) := by decide +kernel
theorem dX11_size_54 : decode cX11_size 54 = .ok (.iload_n 1, 1) := by decide +kernel
theorem dX11_size_55 : decode cX11_size 55 = .ok (.iaload, 1) := by decide +kernel
theorem dX11_size_56 : decode cX11_size 56 = .ok (.ireturn, 1) := by decide +kernel
theorem dX11_size_57 : decode cX11_size 57 = .ok (.iload_n 2, 1) := by decide +kernel
theorem dX11_size_58 : decode cX11_size 58 = .ok (.ifCond .ne 12, 3) := by decide +kernel
theorem dX11_size_61 : decode cX11_size 61 = .ok (.aload_n 0, 1) := by decide +kernel
theorem dX11_size_62 : decode cX11_size 62 = .ok (.getfield 13, 3) := by decide +kernel
theorem dX11_size_65 : decode cX11_size 65 = .ok (.iload_n 1, 1) := by decide +kernel
theorem dX11_size_66 : decode cX11_size 66 = .ok (.iaload, 1) := by decide +kernel
theorem dX11_size_67 : decode cX11_size 67 = .ok (.goto 9, 3) := by decide +kernel
theorem dX11_size_70 : decode cX11_size 70 = .ok (.aload_n 0, 1) := by decide +kernel
theorem dX11_size_71 : decode cX11_size 71 = .ok (.getfield 20, 3) := by decide +kernel
theorem dX11_size_74 : decode cX11_size 74 = .ok (.iload_n 1, 1) := by decide +kernel
theorem dX11_size_75 : decode cX11_size 75 = .ok (.iaload, 1) := by decide +kernel
theorem dX11_size_76 : decode cX11_size 76 = .ok (.ireturn, 1) := by decide +kernel
def f_Model_size (x1 : Int32) (x2 : Int32) (I : MI) (J : MJ) (Q : Int32 → MI → MJ → Prop) : Prop :=
  f_Model_isPlace x1 I J (fun r1 I1 J1 => (if r1 = 0 then Q (-1) I1 J1 else vp_in x1 16 ∧ (if (I1 178 x1.toNatClampNeg) < 0 then Q (-1) I1 J1 else (if x2 < 0 then Q (-1) I1 J1 else (if x2 ≤ 1 then vp_in x1 16 ∧ (if 4 ≤ (I1 178 x1.toNatClampNeg) then (if x2 = 0 then vp_in x1 16 ∧ Q (I1 179 x1.toNatClampNeg) I1 J1 else vp_in x1 16 ∧ Q (I1 181 x1.toNatClampNeg) I1 J1) else (if x2 = 0 then vp_in x1 20 ∧ Q (I1 185 x1.toNatClampNeg) I1 J1 else vp_in x1 20 ∧ Q (I1 186 x1.toNatClampNeg) I1 J1)) else Q (-1) I1 J1)))))
set_option maxRecDepth 100000 in
set_option maxHeartbeats 4000000 in
theorem w_Model_size_b0 {Γ : Ctx} {Q : Int32 → MI → MJ → Prop} {x1 : Int32} {x2 : Int32}  (X : Cx Γ cX11_size 3 RX11 1) (Y : Rt Γ (Pi Q) (Option.some Jvm.ClassFile.FieldType.int))   {I : MI} {J : MJ} (h : f_Model_size x1 x2 I J Q) : Wp Γ 3 0 [(0, .ref (ad Γ 177)), (1, .int x1), (2, .int x2)] [] I J := by
  unfold f_Model_size at h
  refine wp_iload_n X dX11_size_0 1 rfl ?_
  refine cs_Model_isPlace X dX11_size_1 ml_X11_145  h (Nat.le_of_ble_eq_true rfl) (by decide) (fun r1 I1 J1 h => ?_)
  refine wp_if_eq (tgt := 25) X dX11_size_4 (by decide) (fun hc => ?_) (fun hc => ?_)
  · have h := ite_t h hc
    refine wp_iconst X dX11_size_25 ic_m1 ?_
    exact wp_iret X Y dX11_size_26 ⟨_, rfl, h⟩
  · have h := ite_f h hc
    refine wp_aload_n X dX11_size_7 0 rfl ?_
    refine gf_X11_7 (o' := 178) X sh_177 rfl dX11_size_8 ?_
    refine wp_iload_n X dX11_size_11 1 rfl ?_
    obtain ⟨hb12, h⟩ := h
    refine wp_iald X sh_178 hb12 dX11_size_12 ?_
    refine wp_if_lt (tgt := 25) X dX11_size_13 (by decide) (fun hc => ?_) (fun hc => ?_)
    · have h := ite_t h hc
      refine wp_iconst X dX11_size_25 ic_m1 ?_
      exact wp_iret X Y dX11_size_26 ⟨_, rfl, h⟩
    · have h := ite_f h hc
      refine wp_iload_n X dX11_size_16 2 rfl ?_
      refine wp_if_lt (tgt := 25) X dX11_size_17 (by decide) (fun hc => ?_) (fun hc => ?_)
      · have h := ite_t h hc
        refine wp_iconst X dX11_size_25 ic_m1 ?_
        exact wp_iret X Y dX11_size_26 ⟨_, rfl, h⟩
      · have h := ite_f h hc
        refine wp_iload_n X dX11_size_20 2 rfl ?_
        refine wp_iconst X dX11_size_21 ic_1 ?_
        refine wp_icmp_le (tgt := 27) X dX11_size_22 (by decide) (fun hc => ?_) (fun hc => ?_)
        · have h := ite_t h hc
          refine wp_aload_n X dX11_size_27 0 rfl ?_
          refine gf_X11_7 (o' := 178) X sh_177 rfl dX11_size_28 ?_
          refine wp_iload_n X dX11_size_31 1 rfl ?_
          obtain ⟨hb32, h⟩ := h
          refine wp_iald X sh_178 hb32 dX11_size_32 ?_
          refine wp_iconst X dX11_size_33 ic_4 ?_
          refine wp_icmp_ge (tgt := 57) X dX11_size_34 (by decide) (fun hc => ?_) (fun hc => ?_)
          · have h := ite_t h hc
            refine wp_iload_n X dX11_size_57 2 rfl ?_
            refine wp_if_ne (tgt := 70) X dX11_size_58 (by decide) (fun hc => ?_) (fun hc => ?_)
            · have h := ite_f h hc
              refine wp_aload_n X dX11_size_70 0 rfl ?_
              refine gf_X11_20 (o' := 181) X sh_177 rfl dX11_size_71 ?_
              refine wp_iload_n X dX11_size_74 1 rfl ?_
              obtain ⟨hb75, h⟩ := h
              refine wp_iald X sh_181 hb75 dX11_size_75 ?_
              exact wp_iret X Y dX11_size_76 ⟨_, rfl, h⟩
            · have h := ite_t h hc
              refine wp_aload_n X dX11_size_61 0 rfl ?_
              refine gf_X11_13 (o' := 179) X sh_177 rfl dX11_size_62 ?_
              refine wp_iload_n X dX11_size_65 1 rfl ?_
              obtain ⟨hb66, h⟩ := h
              refine wp_iald X sh_179 hb66 dX11_size_66 ?_
              refine wp_goto (tgt := 76) X dX11_size_67 (by decide) ?_
              exact wp_iret X Y dX11_size_76 ⟨_, rfl, h⟩
          · have h := ite_f h hc
            refine wp_iload_n X dX11_size_37 2 rfl ?_
            refine wp_if_ne (tgt := 50) X dX11_size_38 (by decide) (fun hc => ?_) (fun hc => ?_)
            · have h := ite_f h hc
              refine wp_aload_n X dX11_size_50 0 rfl ?_
              refine gf_X11_36 (o' := 186) X sh_177 rfl dX11_size_51 ?_
              refine wp_iload_n X dX11_size_54 1 rfl ?_
              obtain ⟨hb55, h⟩ := h
              refine wp_iald X sh_186 hb55 dX11_size_55 ?_
              exact wp_iret X Y dX11_size_56 ⟨_, rfl, h⟩
            · have h := ite_t h hc
              refine wp_aload_n X dX11_size_41 0 rfl ?_
              refine gf_X11_33 (o' := 185) X sh_177 rfl dX11_size_42 ?_
              refine wp_iload_n X dX11_size_45 1 rfl ?_
              obtain ⟨hb46, h⟩ := h
              refine wp_iald X sh_185 hb46 dX11_size_46 ?_
              refine wp_goto (tgt := 56) X dX11_size_47 (by decide) ?_
              exact wp_iret X Y dX11_size_56 ⟨_, rfl, h⟩
        · have h := ite_f h hc
          refine wp_iconst X dX11_size_25 ic_m1 ?_
          exact wp_iret X Y dX11_size_26 ⟨_, rfl, h⟩

theorem c_Model_size {l : Launch} {g : GE} (hg : Inj g) {I : MI} {J : MJ} {Q : Int32 → MI → MJ → Prop} {x1 : Int32} {x2 : Int32}  (h : f_Model_size x1 x2 I J Q) : Cm l g yX11_size cX11_size 3 (Option.some Jvm.ClassFile.FieldType.int) 1 [.ref (g.1 177), .int x1, .int x2] I J (Pi Q) := by
  refine Cm.of (As := fun ad => [.ref (ad 177), .int x1, .int x2]) hg pn_X11 (Nat.le_of_ble_eq_true rfl) ?_
  exact (fun Γ _ _ X Y => w_Model_size_b0 X Y  h)
theorem cv_Model_size {Γ : Ctx} {cc : ByteArray} {nL d pc index : Nat} {own : String} {L : List (Nat × Value)} {rest : List Value} {I : MI} {J : MJ} {Q : Int32 → MI → MJ → Prop} {x1 : Int32} {x2 : Int32} (X : Cx Γ cc nL own d) (hd : decode cc pc = .ok (.invokevirtual index, 3)) (hlink : Cond.methodLink own index yX11_size ∈ TT)  (h : f_Model_size x1 x2 I J Q) (hrest : (rest.map fun v => v.category).sum ≤ 8) (hdd : 1 + 1 ≤ d) (kk : ∀ (r : Int32) (I' : MI) (J' : MJ), Q r I' J' → Wp Γ nL (pc + 3) L (.int r :: rest) I' J') : Wp Γ nL pc L (.int x2 :: .int x1 :: .ref (ad Γ 177) :: rest) I J :=
  wp_callV (As := [.int x1, .int x2]) (rest := rest) (T := TX11) (N := 62) X hd hlink mv_X11_size sh_177 (by decide) rfl (c_Model_size X.inj  h) rfl rfl hrest hdd (fun v I' J' hv => by obtain ⟨r, rfl, hq⟩ := hv; exact kk r I' J' hq)
theorem dX11_leads_0 : decode cX11_leads 0 = .ok (.aload_n 0, 1) := by decide +kernel
theorem dX11_leads_1 : decode cX11_leads 1 = .ok (.iload_n 1, 1) := by decide +kernel
theorem dX11_leads_2 : decode cX11_leads 2 = .ok (.invokevirtual 242, 3) := by decide +kernel
theorem dX11_leads_5 : decode cX11_leads 5 = .ok (.ifCond .eq 12, 3) := by decide +kernel
theorem dX11_leads_8 : decode cX11_leads 8 = .ok (.aload_n 0, 1) := by decide +kernel
theorem dX11_leads_9 : decode cX11_leads 9 = .ok (.iload_n 1, 1) := by decide +kernel
theorem dX11_leads_10 : decode cX11_leads 10 = .ok (.iload_n 2, 1) := by decide +kernel
theorem dX11_leads_11 : decode cX11_leads 11 = .ok (.invokevirtual 225, 3) := by decide +kernel
theorem dX11_leads_14 : decode cX11_leads 14 = .ok (.ifCond .ne 6, 3) := by decide +kernel
theorem dX11_leads_17 : decode cX11_leads 17 = .ok (.bipush (-3), 2) := by decide +kernel
theorem dX11_leads_19 : decode cX11_leads 19 = .ok (.ireturn, 1) := by decide +kernel
theorem dX11_leads_20 : decode cX11_leads 20 = .ok (.aload_n 0, 1) := by decide +kernel
theorem dX11_leads_21 : decode cX11_leads 21 = .ok (.iload_n 1, 1) := by decide +kernel
theorem dX11_leads_22 : decode cX11_leads 22 = .ok (.iload_n 2, 1) := by decide +kernel
theorem dX11_leads_23 : decode cX11_leads 23 = .ok (.iload_n 3, 1) := by decide +kernel
theorem dX11_leads_24 : decode cX11_leads 24 = .ok (.invokevirtual 168, 3) := by decide +kernel
theorem dX11_leads_27 : decode cX11_leads 27 = .ok (.ifCond .eq 17, 3) := by decide +kernel
theorem dX11_leads_30 : decode cX11_leads 30 = .ok (.aload_n 0, 1) := by decide +kernel
theorem dX11_leads_31 : decode cX11_leads 31 = .ok (.getfield 45, 3) := by decide +kernel
theorem dX11_leads_34 : decode cX11_leads 34 = .ok (.iload_n 1, 1) := by decide +kernel
theorem dX11_leads_35 : decode cX11_leads 35 = .ok (.iload_n 2, 1) := by decide +kernel
theorem dX11_leads_36 : decode cX11_leads 36 = .ok (.iload_n 3, 1) := by decide +kernel
theorem dX11_leads_37 : decode cX11_leads 37 = .ok (.invokestatic 149, 3) := by decide +kernel
theorem dX11_leads_40 : decode cX11_leads 40 = .ok (.iaload, 1) := by decide +kernel
theorem dX11_leads_41 : decode cX11_leads 41 = .ok (.goto 5, 3) := by decide +kernel
theorem dX11_leads_44 : decode cX11_leads 44 = .ok (.bipush (-2), 2) := by decide +kernel
theorem dX11_leads_46 : decode cX11_leads 46 = .ok (.ireturn, 1) := by decide +kernel
def f_Model_leads (x1 : Int32) (x2 : Int32) (x3 : Int32) (I : MI) (J : MJ) (Q : Int32 → MI → MJ → Prop) : Prop :=
  f_Model_isMachine x1 I J (fun r2 I2 J2 => (if r2 = 0 then Q (-3) I2 J2 else f_Model_isState x1 x2 I2 J2 (fun r11 I11 J11 => (if r11 = 0 then Q (-3) I11 J11 else f_Model_hasTake x1 x2 x3 I11 J11 (fun r24 I24 J24 => (if r24 = 0 then Q (-2) I24 J24 else f_Model_spot x1 x2 x3 I24 J24 (fun r37 I37 J37 => vp_in r37 1120 ∧ Q (I37 189 r37.toNatClampNeg) I37 J37)))))))
set_option maxRecDepth 100000 in
set_option maxHeartbeats 4000000 in
theorem w_Model_leads_b0 {Γ : Ctx} {Q : Int32 → MI → MJ → Prop} {x1 : Int32} {x2 : Int32} {x3 : Int32}  (X : Cx Γ cX11_leads 4 RX11 2) (Y : Rt Γ (Pi Q) (Option.some Jvm.ClassFile.FieldType.int))   {I : MI} {J : MJ} (h : f_Model_leads x1 x2 x3 I J Q) : Wp Γ 4 0 [(0, .ref (ad Γ 177)), (1, .int x1), (2, .int x2), (3, .int x3)] [] I J := by
  unfold f_Model_leads at h
  refine wp_aload_n X dX11_leads_0 0 rfl ?_
  refine wp_iload_n X dX11_leads_1 1 rfl ?_
  refine cv_Model_isMachine X dX11_leads_2 ml_X11_242  h (Nat.le_of_ble_eq_true rfl) (by decide) (fun r2 I2 J2 h => ?_)
  refine wp_if_eq (tgt := 17) X dX11_leads_5 (by decide) (fun hc => ?_) (fun hc => ?_)
  · have h := ite_t h hc
    refine wp_bipush X dX11_leads_17 bi_m3 ?_
    exact wp_iret X Y dX11_leads_19 ⟨_, rfl, h⟩
  · have h := ite_f h hc
    refine wp_aload_n X dX11_leads_8 0 rfl ?_
    refine wp_iload_n X dX11_leads_9 1 rfl ?_
    refine wp_iload_n X dX11_leads_10 2 rfl ?_
    refine cv_Model_isState X dX11_leads_11 ml_X11_225  h (Nat.le_of_ble_eq_true rfl) (by decide) (fun r11 I11 J11 h => ?_)
    refine wp_if_ne (tgt := 20) X dX11_leads_14 (by decide) (fun hc => ?_) (fun hc => ?_)
    · have h := ite_f h hc
      refine wp_aload_n X dX11_leads_20 0 rfl ?_
      refine wp_iload_n X dX11_leads_21 1 rfl ?_
      refine wp_iload_n X dX11_leads_22 2 rfl ?_
      refine wp_iload_n X dX11_leads_23 3 rfl ?_
      refine cv_Model_hasTake X dX11_leads_24 ml_X11_168  h (Nat.le_of_ble_eq_true rfl) (by decide) (fun r24 I24 J24 h => ?_)
      refine wp_if_eq (tgt := 44) X dX11_leads_27 (by decide) (fun hc => ?_) (fun hc => ?_)
      · have h := ite_t h hc
        refine wp_bipush X dX11_leads_44 bi_m2 ?_
        exact wp_iret X Y dX11_leads_46 ⟨_, rfl, h⟩
      · have h := ite_f h hc
        refine wp_aload_n X dX11_leads_30 0 rfl ?_
        refine gf_X11_45 (o' := 189) X sh_177 rfl dX11_leads_31 ?_
        refine wp_iload_n X dX11_leads_34 1 rfl ?_
        refine wp_iload_n X dX11_leads_35 2 rfl ?_
        refine wp_iload_n X dX11_leads_36 3 rfl ?_
        refine cs_Model_spot X dX11_leads_37 ml_X11_149  h (Nat.le_of_ble_eq_true rfl) (by decide) (fun r37 I37 J37 h => ?_)
        obtain ⟨hb40, h⟩ := h
        refine wp_iald X sh_189 hb40 dX11_leads_40 ?_
        refine wp_goto (tgt := 46) X dX11_leads_41 (by decide) ?_
        exact wp_iret X Y dX11_leads_46 ⟨_, rfl, h⟩
    · have h := ite_t h hc
      refine wp_bipush X dX11_leads_17 bi_m3 ?_
      exact wp_iret X Y dX11_leads_19 ⟨_, rfl, h⟩

theorem c_Model_leads {l : Launch} {g : GE} (hg : Inj g) {I : MI} {J : MJ} {Q : Int32 → MI → MJ → Prop} {x1 : Int32} {x2 : Int32} {x3 : Int32}  (h : f_Model_leads x1 x2 x3 I J Q) : Cm l g yX11_leads cX11_leads 4 (Option.some Jvm.ClassFile.FieldType.int) 2 [.ref (g.1 177), .int x1, .int x2, .int x3] I J (Pi Q) := by
  refine Cm.of (As := fun ad => [.ref (ad 177), .int x1, .int x2, .int x3]) hg pn_X11 (Nat.le_of_ble_eq_true rfl) ?_
  exact (fun Γ _ _ X Y => w_Model_leads_b0 X Y  h)
theorem cv_Model_leads {Γ : Ctx} {cc : ByteArray} {nL d pc index : Nat} {own : String} {L : List (Nat × Value)} {rest : List Value} {I : MI} {J : MJ} {Q : Int32 → MI → MJ → Prop} {x1 : Int32} {x2 : Int32} {x3 : Int32} (X : Cx Γ cc nL own d) (hd : decode cc pc = .ok (.invokevirtual index, 3)) (hlink : Cond.methodLink own index yX11_leads ∈ TT)  (h : f_Model_leads x1 x2 x3 I J Q) (hrest : (rest.map fun v => v.category).sum ≤ 8) (hdd : 2 + 1 ≤ d) (kk : ∀ (r : Int32) (I' : MI) (J' : MJ), Q r I' J' → Wp Γ nL (pc + 3) L (.int r :: rest) I' J') : Wp Γ nL pc L (.int x3 :: .int x2 :: .int x1 :: .ref (ad Γ 177) :: rest) I J :=
  wp_callV (As := [.int x1, .int x2, .int x3]) (rest := rest) (T := TX11) (N := 62) X hd hlink mv_X11_leads sh_177 (by decide) rfl (c_Model_leads X.inj  h) rfl rfl hrest hdd (fun v I' J' hv => by obtain ⟨r, rfl, hq⟩ := hv; exact kk r I' J' hq)
theorem dX11_what_0 : decode cX11_what 0 = .ok (.aload_n 0, 1) := by decide +kernel
theorem dX11_what_1 : decode cX11_what 1 = .ok (.iload_n 1, 1) := by decide +kernel
theorem dX11_what_2 : decode cX11_what 2 = .ok (.invokevirtual 242, 3) := by decide +kernel
theorem dX11_what_5 : decode cX11_what 5 = .ok (.ifCond .eq 32, 3) := by decide +kernel
theorem dX11_what_8 : decode cX11_what 8 = .ok (.aload_n 0, 1) := by decide +kernel
theorem dX11_what_9 : decode cX11_what 9 = .ok (.getfield 7, 3) := by decide +kernel
theorem dX11_what_12 : decode cX11_what 12 = .ok (.iload_n 1, 1) := by decide +kernel
theorem dX11_what_13 : decode cX11_what 13 = .ok (.iaload, 1) := by decide +kernel
theorem dX11_what_14 : decode cX11_what 14 = .ok (.iconst 3, 1) := by decide +kernel
theorem dX11_what_15 : decode cX11_what 15 = .ok (.if_icmp .ne 22, 3) := by decide +kernel
theorem dX11_what_18 : decode cX11_what 18 = .ok (.aload_n 0, 1) := by decide +kernel
theorem dX11_what_19 : decode cX11_what 19 = .ok (.iload_n 1, 1) := by decide +kernel
theorem dX11_what_20 : decode cX11_what 20 = .ok (.iload_n 2, 1) := by decide +kernel
theorem dX11_what_21 : decode cX11_what 21 = .ok (.invokevirtual 225, 3) := by decide +kernel
theorem dX11_what_24 : decode cX11_what 24 = .ok (.ifCond .eq 13, 3) := by decide +kernel
theorem dX11_what_27 : decode cX11_what 27 = .ok (.aload_n 0, 1) := by decide +kernel
theorem dX11_what_28 : decode cX11_what 28 = .ok (.iload_n 1, 1) := by decide +kernel
theorem dX11_what_29 : decode cX11_what 29 = .ok (.iload_n 2, 1) := by decide +kernel
theorem dX11_what_30 : decode cX11_what 30 = .ok (.iload_n 3, 1) := by decide +kernel
theorem dX11_what_31 : decode cX11_what 31 = .ok (.invokevirtual 168, 3) := by decide +kernel
theorem dX11_what_34 : decode cX11_what 34 = .ok (.ifCond .ne 5, 3) := by decide +kernel
theorem dX11_what_37 : decode cX11_what 37 = .ok (.iconst (-1), 1) := by decide +kernel
theorem dX11_what_38 : decode cX11_what 38 = .ok (.ireturn, 1) := by decide +kernel
theorem dX11_what_39 : decode cX11_what 39 = .ok (.aload_n 0, 1) := by decide +kernel
theorem dX11_what_40 : decode cX11_what 40 = .ok (.getfield 48, 3) := by decide +kernel
theorem dX11_what_43 : decode cX11_what 43 = .ok (.iload_n 1, 1) := by decide +kernel
theorem dX11_what_44 : decode cX11_what 44 = .ok (.iload_n 2, 1) := by decide +kernel
theorem dX11_what_45 : decode cX11_what 45 = .ok (.iload_n 3, 1) := by decide +kernel
theorem dX11_what_46 : decode cX11_what 46 = .ok (.invokestatic 149, 3) := by decide +kernel
theorem dX11_what_49 : decode cX11_what 49 = .ok (.iaload, 1) := by decide +kernel
theorem dX11_what_50 : decode cX11_what 50 = .ok (.ireturn, 1) := by decide +kernel
def f_Model_what (x1 : Int32) (x2 : Int32) (x3 : Int32) (I : MI) (J : MJ) (Q : Int32 → MI → MJ → Prop) : Prop :=
  f_Model_isMachine x1 I J (fun r2 I2 J2 => (if r2 = 0 then Q (-1) I2 J2 else vp_in x1 16 ∧ (if (I2 178 x1.toNatClampNeg) = 3 then f_Model_isState x1 x2 I2 J2 (fun r21 I21 J21 => (if r21 = 0 then Q (-1) I21 J21 else f_Model_hasTake x1 x2 x3 I21 J21 (fun r31 I31 J31 => (if r31 = 0 then Q (-1) I31 J31 else f_Model_spot x1 x2 x3 I31 J31 (fun r46 I46 J46 => vp_in r46 1120 ∧ Q (I46 190 r46.toNatClampNeg) I46 J46))))) else Q (-1) I2 J2)))
set_option maxRecDepth 100000 in
set_option maxHeartbeats 4000000 in
theorem w_Model_what_b0 {Γ : Ctx} {Q : Int32 → MI → MJ → Prop} {x1 : Int32} {x2 : Int32} {x3 : Int32}  (X : Cx Γ cX11_what 4 RX11 2) (Y : Rt Γ (Pi Q) (Option.some Jvm.ClassFile.FieldType.int))   {I : MI} {J : MJ} (h : f_Model_what x1 x2 x3 I J Q) : Wp Γ 4 0 [(0, .ref (ad Γ 177)), (1, .int x1), (2, .int x2), (3, .int x3)] [] I J := by
  unfold f_Model_what at h
  refine wp_aload_n X dX11_what_0 0 rfl ?_
  refine wp_iload_n X dX11_what_1 1 rfl ?_
  refine cv_Model_isMachine X dX11_what_2 ml_X11_242  h (Nat.le_of_ble_eq_true rfl) (by decide) (fun r2 I2 J2 h => ?_)
  refine wp_if_eq (tgt := 37) X dX11_what_5 (by decide) (fun hc => ?_) (fun hc => ?_)
  · have h := ite_t h hc
    refine wp_iconst X dX11_what_37 ic_m1 ?_
    exact wp_iret X Y dX11_what_38 ⟨_, rfl, h⟩
  · have h := ite_f h hc
    refine wp_aload_n X dX11_what_8 0 rfl ?_
    refine gf_X11_7 (o' := 178) X sh_177 rfl dX11_what_9 ?_
    refine wp_iload_n X dX11_what_12 1 rfl ?_
    obtain ⟨hb13, h⟩ := h
    refine wp_iald X sh_178 hb13 dX11_what_13 ?_
    refine wp_iconst X dX11_what_14 ic_3 ?_
    refine wp_icmp_ne (tgt := 37) X dX11_what_15 (by decide) (fun hc => ?_) (fun hc => ?_)
    · have h := ite_f h hc
      refine wp_iconst X dX11_what_37 ic_m1 ?_
      exact wp_iret X Y dX11_what_38 ⟨_, rfl, h⟩
    · have h := ite_t h hc
      refine wp_aload_n X dX11_what_18 0 rfl ?_
      refine wp_iload_n X dX11_what_19 1 rfl ?_
      refine wp_iload_n X dX11_what_20 2 rfl ?_
      refine cv_Model_isState X dX11_what_21 ml_X11_225  h (Nat.le_of_ble_eq_true rfl) (by decide) (fun r21 I21 J21 h => ?_)
      refine wp_if_eq (tgt := 37) X dX11_what_24 (by decide) (fun hc => ?_) (fun hc => ?_)
      · have h := ite_t h hc
        refine wp_iconst X dX11_what_37 ic_m1 ?_
        exact wp_iret X Y dX11_what_38 ⟨_, rfl, h⟩
      · have h := ite_f h hc
        refine wp_aload_n X dX11_what_27 0 rfl ?_
        refine wp_iload_n X dX11_what_28 1 rfl ?_
        refine wp_iload_n X dX11_what_29 2 rfl ?_
        refine wp_iload_n X dX11_what_30 3 rfl ?_
        refine cv_Model_hasTake X dX11_what_31 ml_X11_168  h (Nat.le_of_ble_eq_true rfl) (by decide) (fun r31 I31 J31 h => ?_)
        refine wp_if_ne (tgt := 39) X dX11_what_34 (by decide) (fun hc => ?_) (fun hc => ?_)
        · have h := ite_f h hc
          refine wp_aload_n X dX11_what_39 0 rfl ?_
          refine gf_X11_48 (o' := 190) X sh_177 rfl dX11_what_40 ?_
          refine wp_iload_n X dX11_what_43 1 rfl ?_
          refine wp_iload_n X dX11_what_44 2 rfl ?_
          refine wp_iload_n X dX11_what_45 3 rfl ?_
          refine cs_Model_spot X dX11_what_46 ml_X11_149  h (Nat.le_of_ble_eq_true rfl) (by decide) (fun r46 I46 J46 h => ?_)
          obtain ⟨hb49, h⟩ := h
          refine wp_iald X sh_190 hb49 dX11_what_49 ?_
          exact wp_iret X Y dX11_what_50 ⟨_, rfl, h⟩
        · have h := ite_t h hc
          refine wp_iconst X dX11_what_37 ic_m1 ?_
          exact wp_iret X Y dX11_what_38 ⟨_, rfl, h⟩

theorem c_Model_what {l : Launch} {g : GE} (hg : Inj g) {I : MI} {J : MJ} {Q : Int32 → MI → MJ → Prop} {x1 : Int32} {x2 : Int32} {x3 : Int32}  (h : f_Model_what x1 x2 x3 I J Q) : Cm l g yX11_what cX11_what 4 (Option.some Jvm.ClassFile.FieldType.int) 2 [.ref (g.1 177), .int x1, .int x2, .int x3] I J (Pi Q) := by
  refine Cm.of (As := fun ad => [.ref (ad 177), .int x1, .int x2, .int x3]) hg pn_X11 (Nat.le_of_ble_eq_true rfl) ?_
  exact (fun Γ _ _ X Y => w_Model_what_b0 X Y  h)
theorem cv_Model_what {Γ : Ctx} {cc : ByteArray} {nL d pc index : Nat} {own : String} {L : List (Nat × Value)} {rest : List Value} {I : MI} {J : MJ} {Q : Int32 → MI → MJ → Prop} {x1 : Int32} {x2 : Int32} {x3 : Int32} (X : Cx Γ cc nL own d) (hd : decode cc pc = .ok (.invokevirtual index, 3)) (hlink : Cond.methodLink own index yX11_what ∈ TT)  (h : f_Model_what x1 x2 x3 I J Q) (hrest : (rest.map fun v => v.category).sum ≤ 8) (hdd : 2 + 1 ≤ d) (kk : ∀ (r : Int32) (I' : MI) (J' : MJ), Q r I' J' → Wp Γ nL (pc + 3) L (.int r :: rest) I' J') : Wp Γ nL pc L (.int x3 :: .int x2 :: .int x1 :: .ref (ad Γ 177) :: rest) I J :=
  wp_callV (As := [.int x1, .int x2, .int x3]) (rest := rest) (T := TX11) (N := 62) X hd hlink mv_X11_what sh_177 (by decide) rfl (c_Model_what X.inj  h) rfl rfl hrest hdd (fun v I' J' hv => by obtain ⟨r, rfl, hq⟩ := hv; exact kk r I' J' hq)
theorem dX11_says_0 : decode cX11_says 0 = .ok (.aload_n 0, 1) := by decide +kernel
theorem dX11_says_1 : decode cX11_says 1 = .ok (.iload_n 1, 1) := by decide +kernel
theorem dX11_says_2 : decode cX11_says 2 = .ok (.invokevirtual 242, 3) := by decide +kernel
theorem dX11_says_5 : decode cX11_says 5 = .ok (.ifCond .eq 26, 3) := by decide +kernel
theorem dX11_says_8 : decode cX11_says 8 = .ok (.aload_n 0, 1) := by decide +kernel
theorem dX11_says_9 : decode cX11_says 9 = .ok (.iload_n 1, 1) := by decide +kernel
theorem dX11_says_10 : decode cX11_says 10 = .ok (.iload_n 2, 1) := by decide +kernel
theorem dX11_says_11 : decode cX11_says 11 = .ok (.invokevirtual 225, 3) := by decide +kernel
theorem dX11_says_14 : decode cX11_says 14 = .ok (.ifCond .eq 17, 3) := by decide +kernel
theorem dX11_says_17 : decode cX11_says 17 = .ok (.aload_n 0, 1) := by decide +kernel
theorem dX11_says_18 : decode cX11_says 18 = .ok (.getfield 39, 3) := by decide +kernel
theorem dX11_says_21 : decode cX11_says 21 = .ok (.bipush 14, 2) := by decide +kernel
theorem dX11_says_23 : decode cX11_says 23 = .ok (.iload_n 1, 1) := by decide +kernel
theorem dX11_says_24 : decode cX11_says 24 = .ok (.imul, 1) := by decide +kernel
theorem dX11_says_25 : decode cX11_says 25 = .ok (.iload_n 2, 1) := by decide +kernel
theorem dX11_says_26 : decode cX11_says 26 = .ok (.iadd, 1) := by decide +kernel
theorem dX11_says_27 : decode cX11_says 27 = .ok (.iaload, 1) := by decide +kernel
theorem dX11_says_28 : decode cX11_says 28 = .ok (.goto 4, 3) := by decide +kernel
theorem dX11_says_31 : decode cX11_says 31 = .ok (.iconst (-1), 1) := by decide +kernel
theorem dX11_says_32 : decode cX11_says 32 = .ok (.ireturn, 1) := by decide +kernel
def f_Model_says (x1 : Int32) (x2 : Int32) (I : MI) (J : MJ) (Q : Int32 → MI → MJ → Prop) : Prop :=
  f_Model_isMachine x1 I J (fun r2 I2 J2 => (if r2 = 0 then Q (-1) I2 J2 else f_Model_isState x1 x2 I2 J2 (fun r11 I11 J11 => (if r11 = 0 then Q (-1) I11 J11 else vp_in ((14 * x1) + x2) 280 ∧ Q (I11 187 ((14 * x1) + x2).toNatClampNeg) I11 J11))))
set_option maxRecDepth 100000 in
set_option maxHeartbeats 4000000 in
theorem w_Model_says_b0 {Γ : Ctx} {Q : Int32 → MI → MJ → Prop} {x1 : Int32} {x2 : Int32}  (X : Cx Γ cX11_says 3 RX11 2) (Y : Rt Γ (Pi Q) (Option.some Jvm.ClassFile.FieldType.int))   {I : MI} {J : MJ} (h : f_Model_says x1 x2 I J Q) : Wp Γ 3 0 [(0, .ref (ad Γ 177)), (1, .int x1), (2, .int x2)] [] I J := by
  unfold f_Model_says at h
  refine wp_aload_n X dX11_says_0 0 rfl ?_
  refine wp_iload_n X dX11_says_1 1 rfl ?_
  refine cv_Model_isMachine X dX11_says_2 ml_X11_242  h (Nat.le_of_ble_eq_true rfl) (by decide) (fun r2 I2 J2 h => ?_)
  refine wp_if_eq (tgt := 31) X dX11_says_5 (by decide) (fun hc => ?_) (fun hc => ?_)
  · have h := ite_t h hc
    refine wp_iconst X dX11_says_31 ic_m1 ?_
    exact wp_iret X Y dX11_says_32 ⟨_, rfl, h⟩
  · have h := ite_f h hc
    refine wp_aload_n X dX11_says_8 0 rfl ?_
    refine wp_iload_n X dX11_says_9 1 rfl ?_
    refine wp_iload_n X dX11_says_10 2 rfl ?_
    refine cv_Model_isState X dX11_says_11 ml_X11_225  h (Nat.le_of_ble_eq_true rfl) (by decide) (fun r11 I11 J11 h => ?_)
    refine wp_if_eq (tgt := 31) X dX11_says_14 (by decide) (fun hc => ?_) (fun hc => ?_)
    · have h := ite_t h hc
      refine wp_iconst X dX11_says_31 ic_m1 ?_
      exact wp_iret X Y dX11_says_32 ⟨_, rfl, h⟩
    · have h := ite_f h hc
      refine wp_aload_n X dX11_says_17 0 rfl ?_
      refine gf_X11_39 (o' := 187) X sh_177 rfl dX11_says_18 ?_
      refine wp_bipush X dX11_says_21 bi_14 ?_
      refine wp_iload_n X dX11_says_23 1 rfl ?_
      refine wp_imul X dX11_says_24 ?_
      refine wp_iload_n X dX11_says_25 2 rfl ?_
      refine wp_iadd X dX11_says_26 ?_
      obtain ⟨hb27, h⟩ := h
      refine wp_iald X sh_187 hb27 dX11_says_27 ?_
      refine wp_goto (tgt := 32) X dX11_says_28 (by decide) ?_
      exact wp_iret X Y dX11_says_32 ⟨_, rfl, h⟩

theorem c_Model_says {l : Launch} {g : GE} (hg : Inj g) {I : MI} {J : MJ} {Q : Int32 → MI → MJ → Prop} {x1 : Int32} {x2 : Int32}  (h : f_Model_says x1 x2 I J Q) : Cm l g yX11_says cX11_says 3 (Option.some Jvm.ClassFile.FieldType.int) 2 [.ref (g.1 177), .int x1, .int x2] I J (Pi Q) := by
  refine Cm.of (As := fun ad => [.ref (ad 177), .int x1, .int x2]) hg pn_X11 (Nat.le_of_ble_eq_true rfl) ?_
  exact (fun Γ _ _ X Y => w_Model_says_b0 X Y  h)
theorem cv_Model_says {Γ : Ctx} {cc : ByteArray} {nL d pc index : Nat} {own : String} {L : List (Nat × Value)} {rest : List Value} {I : MI} {J : MJ} {Q : Int32 → MI → MJ → Prop} {x1 : Int32} {x2 : Int32} (X : Cx Γ cc nL own d) (hd : decode cc pc = .ok (.invokevirtual index, 3)) (hlink : Cond.methodLink own index yX11_says ∈ TT)  (h : f_Model_says x1 x2 I J Q) (hrest : (rest.map fun v => v.category).sum ≤ 8) (hdd : 2 + 1 ≤ d) (kk : ∀ (r : Int32) (I' : MI) (J' : MJ), Q r I' J' → Wp Γ nL (pc + 3) L (.int r :: rest) I' J') : Wp Γ nL pc L (.int x2 :: .int x1 :: .ref (ad Γ 177) :: rest) I J :=
  wp_callV (As := [.int x1, .int x2]) (rest := rest) (T := TX11) (N := 62) X hd hlink mv_X11_says sh_177 (by decide) rfl (c_Model_says X.inj  h) rfl rfl hrest hdd (fun v I' J' hv => by obtain ⟨r, rfl, hq⟩ := hv; exact kk r I' J' hq)
