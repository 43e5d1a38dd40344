def R_law : String := "WordSchoolLaw"
def lw_P (b : Addr) (xs : List Int32) (args : Array Value) (s : State) : Prop := args = #[.ref b] ∧ s.IntsAt b xs ∧ xs.length ≤ 3072 ∧ (Jvm.Cond.and given_1 narrow_1).before args s = true
def lw_Q (_ : Array Value) (s : State) (o : Outcome) (t : State) : Prop := o = .returned (some (.int 1)) ∧ Framed s o t [] 600000 7302250
def lw_Z (below : List Frame) (a : Array Value) (s : State) : State → Prop := fun t => ∃ o, t.status = .running ∧ Ended t below o ∧ lw_Q a s o t
/-- the law's own end, with 1 on the stack, nothing written that was there before, its room as the claim has it -/
theorem lw_ret {p : Program} {l : Launch} {e : Env} {s : State} {m : MethodId} {below : List Frame} {meth : Method} {c : Code} {b : Nat} (hx : p.tables.exec = Jvm.exec) (hb : c.code = code) (hr : meth.sig.returnType = ret) (hlocks : meth.locks = false) {pc : Nat} {H : Heap} {ls : Array Slot} (hdg : decode code pc = .ok (.ireturn, 1)) : W p l e room_1 s m #[Value.ref b] below meth c H [] 600000 7302250 (lw_Z below #[Value.ref b] s) (F0 m pc ls [.int 1]) := by
  intro T hT X
  obtain ⟨fs, hret, hrun, hended, hW, hframe⟩ := X.leave (v := some (.int 1)) (hlocks := hlocks) (fun h => by rw [hr] at h; cases h)
  have hmeth' : T.vm.method? m = some meth := X.method'
  refine ⟨T.setFrames fs, ?_, .returned (some (.int 1)), hrun, hended, rfl, ⟨_, rfl⟩, hW, hframe⟩
  jvm_step X.here [X.here.top, hx, hb, hdg, hmeth', hr, ret, narrow_b1]
  (try refine ⟨rfl, ?_⟩); (try refine ⟨rfl, ?_⟩)
  first | (intro acts; rw [hret _ acts rfl rfl rfl]) | rw [hret _ _ rfl rfl rfl]
  exact Steps.refl _
/-- what holds at the law's entry: the machine, the code, the tables' words (any of lw_tbl by 'hts w (by decide +kernel)'), the script of L ints xs at the cell b, what the Statement gives of the start (any of its parts by flat_of_before) -/
def lw_At (p : Program) (s : State) (m : MethodId) (meth : Method) (c : Code) (b L : Nat) (xs : Nat → Int32) : Prop :=
  p.tables.exec = Jvm.exec ∧ c.code = code ∧ meth.sig.returnType = ret ∧ c.maxLocals = 4 ∧ s.vm.findClass R_law = some m.cls ∧ (∀ w ∈ lw_tbl, w.before #[Value.ref b] s = true) ∧ va_X b L xs s s.heap ∧ b < s.heap.size ∧ meth.locks = false ∧ (Jvm.Cond.and given_1 narrow_1).before #[Value.ref b] s = true
theorem ml_L_13 : Cond.methodLink RL 13 yX10_machine ∈ TT := TT_at 460 (by decide +kernel) rfl
theorem ml_L_17 : Cond.methodLink RL 17 yX11_machine ∈ TT := TT_at 1348 (by decide +kernel) rfl
theorem ml_L_18 : Cond.methodLink RL 18 yX10_row ∈ TT := TT_at 485 (by decide +kernel) rfl
theorem ml_L_22 : Cond.methodLink RL 22 yX11_row ∈ TT := TT_at 1370 (by decide +kernel) rfl
theorem ml_L_23 : Cond.methodLink RL 23 yX10_cut ∈ TT := TT_at 517 (by decide +kernel) rfl
theorem ml_L_27 : Cond.methodLink RL 27 yX11_cut ∈ TT := TT_at 1382 (by decide +kernel) rfl
theorem ml_L_28 : Cond.methodLink RL 28 yX10_take ∈ TT := TT_at 521 (by decide +kernel) rfl
theorem ml_L_31 : Cond.methodLink RL 31 yX11_take ∈ TT := TT_at 1386 (by decide +kernel) rfl
theorem ml_L_32 : Cond.methodLink RL 32 yX10_say ∈ TT := TT_at 532 (by decide +kernel) rfl
theorem ml_L_35 : Cond.methodLink RL 35 yX11_say ∈ TT := TT_at 1402 (by decide +kernel) rfl
theorem ml_L_36 : Cond.methodLink RL 36 yX10_act ∈ TT := TT_at 540 (by decide +kernel) rfl
theorem ml_L_39 : Cond.methodLink RL 39 yX11_act ∈ TT := TT_at 1406 (by decide +kernel) rfl
theorem ml_L_40 : Cond.methodLink RL 40 yX10_copy ∈ TT := TT_at 544 (by decide +kernel) rfl
theorem ml_L_44 : Cond.methodLink RL 44 yX11_copy ∈ TT := TT_at 1410 (by decide +kernel) rfl
theorem ml_L_45 : Cond.methodLink RL 45 yX10_draw ∈ TT := TT_at 558 (by decide +kernel) rfl
theorem ml_L_48 : Cond.methodLink RL 48 yX11_draw ∈ TT := TT_at 1414 (by decide +kernel) rfl
theorem ml_L_49 : Cond.methodLink RL 49 yX10_lift ∈ TT := TT_at 574 (by decide +kernel) rfl
theorem ml_L_53 : Cond.methodLink RL 53 yX11_lift ∈ TT := TT_at 1424 (by decide +kernel) rfl
theorem ml_L_54 : Cond.methodLink RL 54 yX10_kind ∈ TT := TT_at 578 (by decide +kernel) rfl
theorem ml_L_57 : Cond.methodLink RL 57 yX11_kind ∈ TT := TT_at 1428 (by decide +kernel) rfl
theorem ml_L_58 : Cond.methodLink RL 58 yX10_size ∈ TT := TT_at 582 (by decide +kernel) rfl
theorem ml_L_61 : Cond.methodLink RL 61 yX11_size ∈ TT := TT_at 1432 (by decide +kernel) rfl
theorem ml_L_62 : Cond.methodLink RL 62 yX10_leads ∈ TT := TT_at 586 (by decide +kernel) rfl
theorem ml_L_65 : Cond.methodLink RL 65 yX11_leads ∈ TT := TT_at 1436 (by decide +kernel) rfl
theorem ml_L_66 : Cond.methodLink RL 66 yX10_what ∈ TT := TT_at 594 (by decide +kernel) rfl
theorem ml_L_69 : Cond.methodLink RL 69 yX11_what ∈ TT := TT_at 1444 (by decide +kernel) rfl
theorem ml_L_70 : Cond.methodLink RL 70 yX10_says ∈ TT := TT_at 598 (by decide +kernel) rfl
theorem ml_L_73 : Cond.methodLink RL 73 yX11_says ∈ TT := TT_at 1448 (by decide +kernel) rfl
theorem ml_L_76 : Cond.methodLink RL 76 yX10_answer ∈ TT := TT_at 602 (by decide +kernel) rfl
theorem ml_L_80 : Cond.methodLink RL 80 yX11_answer ∈ TT := TT_at 1452 (by decide +kernel) rfl
theorem ml_L_81 : Cond.methodLink RL 81 yX10_count ∈ TT := TT_at 643 (by decide +kernel) rfl
theorem ml_L_85 : Cond.methodLink RL 85 yX11_count ∈ TT := TT_at 1485 (by decide +kernel) rfl
theorem ml_L_86 : Cond.methodLink RL 86 yX10_word ∈ TT := TT_at 673 (by decide +kernel) rfl
theorem ml_L_90 : Cond.methodLink RL 90 yX11_word ∈ TT := TT_at 1498 (by decide +kernel) rfl
theorem ml_L_91 : Cond.methodLink RL 91 yX10_place ∈ TT := TT_at 687 (by decide +kernel) rfl
theorem ml_L_95 : Cond.methodLink RL 95 yX11_place ∈ TT := TT_at 1507 (by decide +kernel) rfl
theorem ml_L_96 : Cond.methodLink RL 96 yX10_differ ∈ TT := TT_at 698 (by decide +kernel) rfl
theorem ml_L_100 : Cond.methodLink RL 100 yX11_differ ∈ TT := TT_at 1511 (by decide +kernel) rfl
theorem ml_L_101 : Cond.methodLink RL 101 yX10_least ∈ TT := TT_at 792 (by decide +kernel) rfl
theorem ml_L_104 : Cond.methodLink RL 104 yX11_least ∈ TT := TT_at 1555 (by decide +kernel) rfl
theorem ml_L_105 : Cond.methodLink RL 105 yX10_join ∈ TT := TT_at 854 (by decide +kernel) rfl
theorem ml_L_108 : Cond.methodLink RL 108 yX11_join ∈ TT := TT_at 1567 (by decide +kernel) rfl
theorem ml_L_109 : Cond.methodLink RL 109 yX10_suite ∈ TT := TT_at 878 (by decide +kernel) rfl
theorem ml_L_112 : Cond.methodLink RL 112 yX11_suite ∈ TT := TT_at 1623 (by decide +kernel) rfl
theorem ml_L_113 : Cond.methodLink RL 113 yX10_passes ∈ TT := TT_at 936 (by decide +kernel) rfl
theorem ml_L_116 : Cond.methodLink RL 116 yX11_passes ∈ TT := TT_at 1642 (by decide +kernel) rfl
theorem ml_L_117 : Cond.methodLink RL 117 yX10_teacher ∈ TT := TT_at 950 (by decide +kernel) rfl
theorem ml_L_120 : Cond.methodLink RL 120 yX11_teacher ∈ TT := TT_at 1646 (by decide +kernel) rfl
theorem ml_L_121 : Cond.methodLink RL 121 yX10_forget ∈ TT := TT_at 961 (by decide +kernel) rfl
theorem ml_L_124 : Cond.methodLink RL 124 yX11_forget ∈ TT := TT_at 1650 (by decide +kernel) rfl
theorem ml_L_125 : Cond.methodLink RL 125 yX10_learn ∈ TT := TT_at 970 (by decide +kernel) rfl
theorem ml_L_128 : Cond.methodLink RL 128 yX11_learn ∈ TT := TT_at 1654 (by decide +kernel) rfl
theorem ml_L_129 : Cond.methodLink RL 129 yX10_exam ∈ TT := TT_at 1009 (by decide +kernel) rfl
theorem ml_L_133 : Cond.methodLink RL 133 yX11_exam ∈ TT := TT_at 1678 (by decide +kernel) rfl
theorem ml_L_134 : Cond.methodLink RL 134 yX10_tell ∈ TT := TT_at 1024 (by decide +kernel) rfl
theorem ml_L_138 : Cond.methodLink RL 138 yX11_tell ∈ TT := TT_at 1690 (by decide +kernel) rfl
theorem ml_L_139 : Cond.methodLink RL 139 yX10_guess ∈ TT := TT_at 1029 (by decide +kernel) rfl
theorem ml_L_142 : Cond.methodLink RL 142 yX11_guess ∈ TT := TT_at 1694 (by decide +kernel) rfl
theorem ml_L_143 : Cond.methodLink RL 143 yX10_ahead ∈ TT := TT_at 1033 (by decide +kernel) rfl
theorem ml_L_147 : Cond.methodLink RL 147 yX11_ahead ∈ TT := TT_at 1698 (by decide +kernel) rfl
theorem ml_L_148 : Cond.methodLink RL 148 yX10_behind ∈ TT := TT_at 1037 (by decide +kernel) rfl
theorem ml_L_151 : Cond.methodLink RL 151 yX11_behind ∈ TT := TT_at 1702 (by decide +kernel) rfl
theorem ml_L_152 : Cond.methodLink RL 152 yX10_cell ∈ TT := TT_at 1041 (by decide +kernel) rfl
theorem ml_L_155 : Cond.methodLink RL 155 yX11_cell ∈ TT := TT_at 1706 (by decide +kernel) rfl
theorem ml_L_156 : Cond.methodLink RL 156 yX10_told ∈ TT := TT_at 1049 (by decide +kernel) rfl
theorem ml_L_160 : Cond.methodLink RL 160 yX11_told ∈ TT := TT_at 1710 (by decide +kernel) rfl
theorem ml_L_161 : Cond.methodLink RL 161 yX10_guesses ∈ TT := TT_at 1053 (by decide +kernel) rfl
theorem ml_L_164 : Cond.methodLink RL 164 yX11_guesses ∈ TT := TT_at 1714 (by decide +kernel) rfl
theorem ml_L_165 : Cond.methodLink RL 165 yX10_know ∈ TT := TT_at 1057 (by decide +kernel) rfl
theorem ml_L_168 : Cond.methodLink RL 168 yX11_know ∈ TT := TT_at 1718 (by decide +kernel) rfl
theorem ml_L_169 : Cond.methodLink RL 169 yX10_unknow ∈ TT := TT_at 1070 (by decide +kernel) rfl
theorem ml_L_172 : Cond.methodLink RL 172 yX11_unknow ∈ TT := TT_at 1727 (by decide +kernel) rfl
theorem ml_L_173 : Cond.methodLink RL 173 yX10_fewest ∈ TT := TT_at 1074 (by decide +kernel) rfl
theorem ml_L_176 : Cond.methodLink RL 176 yX11_fewest ∈ TT := TT_at 1731 (by decide +kernel) rfl
theorem ml_L_177 : Cond.methodLink RL 177 yX10_fits ∈ TT := TT_at 1133 (by decide +kernel) rfl
theorem ml_L_180 : Cond.methodLink RL 180 yX11_fits ∈ TT := TT_at 1755 (by decide +kernel) rfl
theorem ml_L_181 : Cond.methodLink RL 181 yX10_blame ∈ TT := TT_at 1142 (by decide +kernel) rfl
theorem ml_L_184 : Cond.methodLink RL 184 yX11_blame ∈ TT := TT_at 1759 (by decide +kernel) rfl
theorem ml_L_185 : Cond.methodLink RL 185 yX10_raise ∈ TT := TT_at 1146 (by decide +kernel) rfl
theorem ml_L_188 : Cond.methodLink RL 188 yX11_raise ∈ TT := TT_at 1763 (by decide +kernel) rfl
theorem ml_L_189 : Cond.methodLink RL 189 yX10_status ∈ TT := TT_at 1150 (by decide +kernel) rfl
theorem ml_L_192 : Cond.methodLink RL 192 yX11_status ∈ TT := TT_at 1767 (by decide +kernel) rfl
theorem kl_L_74 : Cond.constantLong RL 74 4294967295 ∈ TT := TT_at 1771 (by decide +kernel) rfl
theorem ic_6 : Int32.ofInt 6 = 6 := by decide
theorem ii_6 {x y : Int32} (h : y = x + 6) : x + Int32.ofInt 6 = y := by rw [ic_6]; exact h.symm
def SX (Γ : Ctx) (b L : Nat) (xs : Nat → Int32) : Prop := match Γ with
  | (p, l, e, R, s, m, args, below, meth, c, cells, slots, Q, A, g) => va_X b L xs s s.heap ∧ b < s.heap.size ∧ ¬ A b
def LY (Γ : Ctx) (b : Nat) : Prop := match Γ with
  | (p, l, e, R, s, m, args, below, meth, c, cells, slots, Q, A, g) => Q = lw_Z below #[Value.ref b] s ∧ args = #[Value.ref b] ∧ R = room_1 ∧ meth.sig.returnType = ret ∧ meth.locks = false ∧ A = (fun q => s.heap.size ≤ q) ∧ cells ≤ 600000 ∧ slots ≤ 7302250
section LR
variable {Γ : Ctx} {nL d pc b L0 : Nat} {own : String} {L : List (Nat × Value)} {st : List Value} {I : MI} {J : MJ} {xs : Nat → Int32} {cc : ByteArray}
theorem wp_sld {i : Int32} (X : Cx Γ cc nL own d) (hX : SX Γ b L0 xs) (hin : vp_in i L0) (hd : decode cc pc = .ok (.iaload, 1)) (k : Wp Γ nL (pc + 1) L (.int (xs i.toNatClampNeg) :: st) I J) : Wp Γ nL pc L (.int i :: .ref b :: st) I J := by
  obtain ⟨p, l, e, R, s, m, args, below, meth, c, cells, slots, Q, A, g⟩ := Γ
  exact fun H locs ls hP hS hl => va_sld X.1 X.2.1 hX.1 hX.2.1 hX.2.2 hS hin hd (k H locs ls hP hS hl)
theorem wp_slen (X : Cx Γ cc nL own d) (hX : SX Γ b L0 xs) (hd : decode cc pc = .ok (.arraylength, 1)) (k : Wp Γ nL (pc + 1) L (.int (Int32.ofNat L0) :: st) I J) : Wp Γ nL pc L (.ref b :: st) I J := by
  obtain ⟨p, l, e, R, s, m, args, below, meth, c, cells, slots, Q, A, g⟩ := Γ
  exact fun H locs ls hP hS hl => va_slen X.1 X.2.1 hX.1 hX.2.1 hX.2.2 hS hd (k H locs ls hP hS hl)
theorem wp_lawret (X : Cx Γ code nL own d) (Y : LY Γ b) (hd : decode code pc = .ok (.ireturn, 1)) : Wp Γ nL pc L [.int 1] I J := by
  obtain ⟨p, l, e, R, s, m, args, below, meth, c, cells, slots, Q, A, g⟩ := Γ
  obtain ⟨rfl, rfl, rfl, hr, hlk, rfl, hc1, hc2⟩ := Y
  intro H locs ls hP hS hl
  refine va_forget (fun q hq => hS.2.2 q hq) ?_
  refine W.widen hc1 hc2 ?_
  exact lw_ret X.1 X.2.1 hr hlk hd
end LR
theorem dL_law_0 : decode code 0 = .ok (.new 7, 3) := by decide +kernel
theorem dL_law_3 : decode code 3 = .ok (.dup, 1) := by decide +kernel
theorem dL_law_4 : decode code 4 = .ok (.invokespecial 9, 3) := by decide +kernel
theorem dL_law_7 : decode code 7 = .ok (.astore_n 1, 1) := by decide +kernel
theorem dL_law_8 : decode code 8 = .ok (.new 10, 3) := by decide +kernel
theorem dL_law_11 : decode code 11 = .ok (.dup, 1) := by decide +kernel
theorem dL_law_12 : decode code 12 = .ok (.invokespecial 12, 3) := by decide +kernel
theorem dL_law_15 : decode code 15 = .ok (.astore_n 2, 1) := by decide +kernel
theorem dL_law_16 : decode code 16 = .ok (.iconst 0, 1) := by decide +kernel
theorem dL_law_17 : decode code 17 = .ok (.istore_n 3, 1) := by decide +kernel
theorem dL_law_18 : decode code 18 = .ok (.iload_n 3, 1) := by decide +kernel
theorem dL_law_19 : decode code 19 = .ok (.aload_n 0, 1) := by decide +kernel
theorem dL_law_20 : decode code 20 = .ok (.arraylength, 1) := by decide +kernel
theorem dL_law_21 : decode code 21 = .ok (.bipush 6, 2) := by decide +kernel
theorem dL_law_23 : decode code 23 = .ok (.isub, 1) := by decide +kernel
theorem dL_law_24 : decode code 24 = .ok (.if_icmp .gt 1745, 3) := by decide +kernel
theorem dL_law_27 : decode code 27 = .ok (.aload_n 0, 1) := by decide +kernel
theorem dL_law_28 : decode code 28 = .ok (.iload_n 3, 1) := by decide +kernel
theorem dL_law_29 : decode code 29 = .ok (.iaload, 1) := by decide +kernel
theorem dL_law_30 : decode code 30 = .ok (.bipush 63, 2) := by decide +kernel
theorem dL_law_32 : decode code 32 = .ok (.iand, 1) := by decide +kernel
theorem dL_law_33 : decode code 33 = .ok (.tableswitch 1730 0 40 #[179, 232, 275, 308, 361, 404, 457, 520, 553, 576, 599, 632, 675, 718, 751, 814, 858, 932, 996, 1030, 1063, 1116, 1149, 1193, 1246, 1309, 1332, 1345, 1398, 1421, 1445, 1469, 1512, 1526, 1539, 1602, 1615, 1638, 1661, 1694, 1717], 179) := by decide +kernel
theorem dL_law_212 : decode code 212 = .ok (.aload_n 1, 1) := by decide +kernel
theorem dL_law_213 : decode code 213 = .ok (.aload_n 0, 1) := by decide +kernel
theorem dL_law_214 : decode code 214 = .ok (.iload_n 3, 1) := by decide +kernel
theorem dL_law_215 : decode code 215 = .ok (.iconst 1, 1) := by decide +kernel
theorem dL_law_216 : decode code 216 = .ok (.iadd, 1) := by decide +kernel
theorem dL_law_217 : decode code 217 = .ok (.iaload, 1) := by decide +kernel
theorem dL_law_218 : decode code 218 = .ok (.aload_n 0, 1) := by decide +kernel
theorem dL_law_219 : decode code 219 = .ok (.iload_n 3, 1) := by decide +kernel
theorem dL_law_220 : decode code 220 = .ok (.iconst 2, 1) := by decide +kernel
theorem dL_law_221 : decode code 221 = .ok (.iadd, 1) := by decide +kernel
theorem dL_law_222 : decode code 222 = .ok (.iaload, 1) := by decide +kernel
theorem dL_law_223 : decode code 223 = .ok (.aload_n 0, 1) := by decide +kernel
theorem dL_law_224 : decode code 224 = .ok (.iload_n 3, 1) := by decide +kernel
theorem dL_law_225 : decode code 225 = .ok (.iconst 3, 1) := by decide +kernel
theorem dL_law_226 : decode code 226 = .ok (.iadd, 1) := by decide +kernel
theorem dL_law_227 : decode code 227 = .ok (.iaload, 1) := by decide +kernel
theorem dL_law_228 : decode code 228 = .ok (.aload_n 0, 1) := by decide +kernel
theorem dL_law_229 : decode code 229 = .ok (.iload_n 3, 1) := by decide +kernel
theorem dL_law_230 : decode code 230 = .ok (.iconst 4, 1) := by decide +kernel
theorem dL_law_231 : decode code 231 = .ok (.iadd, 1) := by decide +kernel
theorem dL_law_232 : decode code 232 = .ok (.iaload, 1) := by decide +kernel
theorem dL_law_233 : decode code 233 = .ok (.invokevirtual 13, 3) := by decide +kernel
theorem dL_law_236 : decode code 236 = .ok (.aload_n 2, 1) := by decide +kernel
theorem dL_law_237 : decode code 237 = .ok (.aload_n 0, 1) := by decide +kernel
theorem dL_law_238 : decode code 238 = .ok (.iload_n 3, 1) := by decide +kernel
theorem dL_law_239 : decode code 239 = .ok (.iconst 1, 1) := by decide +kernel
theorem dL_law_240 : decode code 240 = .ok (.iadd, 1) := by decide +kernel
theorem dL_law_241 : decode code 241 = .ok (.iaload, 1) := by decide +kernel
theorem dL_law_242 : decode code 242 = .ok (.aload_n 0, 1) := by decide +kernel
theorem dL_law_243 : decode code 243 = .ok (.iload_n 3, 1) := by decide +kernel
theorem dL_law_244 : decode code 244 = .ok (.iconst 2, 1) := by decide +kernel
theorem dL_law_245 : decode code 245 = .ok (.iadd, 1) := by decide +kernel
theorem dL_law_246 : decode code 246 = .ok (.iaload, 1) := by decide +kernel
theorem dL_law_247 : decode code 247 = .ok (.aload_n 0, 1) := by decide +kernel
theorem dL_law_248 : decode code 248 = .ok (.iload_n 3, 1) := by decide +kernel
theorem dL_law_249 : decode code 249 = .ok (.iconst 3, 1) := by decide +kernel
theorem dL_law_250 : decode code 250 = .ok (.iadd, 1) := by decide +kernel
theorem dL_law_251 : decode code 251 = .ok (.iaload, 1) := by decide +kernel
theorem dL_law_252 : decode code 252 = .ok (.aload_n 0, 1) := by decide +kernel
theorem dL_law_253 : decode code 253 = .ok (.iload_n 3, 1) := by decide +kernel
theorem dL_law_254 : decode code 254 = .ok (.iconst 4, 1) := by decide +kernel
theorem dL_law_255 : decode code 255 = .ok (.iadd, 1) := by decide +kernel
theorem dL_law_256 : decode code 256 = .ok (.iaload, 1) := by decide +kernel
theorem dL_law_257 : decode code 257 = .ok (.invokevirtual 17, 3) := by decide +kernel
theorem dL_law_260 : decode code 260 = .ok (.if_icmp .eq 1503, 3) := by decide +kernel
theorem dL_law_263 : decode code 263 = .ok (.iconst 0, 1) := by decide +kernel
theorem dL_law_264 : decode code 264 = .ok (.ireturn, 1) := by decide +kernel
theorem dL_law_265 : decode code 265 = .ok (.aload_n 1, 1) := by decide +kernel
theorem dL_law_266 : decode code 266 = .ok (.aload_n 0, 1) := by decide +kernel
theorem dL_law_267 : decode code 267 = .ok (.iload_n 3, 1) := by decide +kernel
theorem dL_law_268 : decode code 268 = .ok (.iconst 1, 1) := by decide +kernel
theorem dL_law_269 : decode code 269 = .ok (.iadd, 1) := by decide +kernel
theorem dL_law_270 : decode code 270 = .ok (.iaload, 1) := by decide +kernel
theorem dL_law_271 : decode code 271 = .ok (.aload_n 0, 1) := by decide +kernel
theorem dL_law_272 : decode code 272 = .ok (.iload_n 3, 1) := by decide +kernel
theorem dL_law_273 : decode code 273 = .ok (.iconst 2, 1) := by decide +kernel
theorem dL_law_274 : decode code 274 = .ok (.iadd, 1) := by decide +kernel
theorem dL_law_275 : decode code 275 = .ok (.iaload, 1) := by decide +kernel
theorem dL_law_276 : decode code 276 = .ok (.aload_n 0, 1) := by decide +kernel
theorem dL_law_277 : decode code 277 = .ok (.iload_n 3, 1) := by decide +kernel
theorem dL_law_278 : decode code 278 = .ok (.iconst 3, 1) := by decide +kernel
theorem dL_law_279 : decode code 279 = .ok (.iadd, 1) := by decide +kernel
theorem dL_law_280 : decode code 280 = .ok (.iaload, 1) := by decide +kernel
theorem dL_law_281 : decode code 281 = .ok (.invokevirtual 18, 3) := by decide +kernel
theorem dL_law_284 : decode code 284 = .ok (.aload_n 2, 1) := by decide +kernel
theorem dL_law_285 : decode code 285 = .ok (.aload_n 0, 1) := by decide +kernel
theorem dL_law_286 : decode code 286 = .ok (.iload_n 3, 1) := by decide +kernel
theorem dL_law_287 : decode code 287 = .ok (.iconst 1, 1) := by decide +kernel
theorem dL_law_288 : decode code 288 = .ok (.iadd, 1) := by decide +kernel
theorem dL_law_289 : decode code 289 = .ok (.iaload, 1) := by decide +kernel
theorem dL_law_290 : decode code 290 = .ok (.aload_n 0, 1) := by decide +kernel
theorem dL_law_291 : decode code 291 = .ok (.iload_n 3, 1) := by decide +kernel
theorem dL_law_292 : decode code 292 = .ok (.iconst 2, 1) := by decide +kernel
theorem dL_law_293 : decode code 293 = .ok (.iadd, 1) := by decide +kernel
theorem dL_law_294 : decode code 294 = .ok (.iaload, 1) := by decide +kernel
theorem dL_law_295 : decode code 295 = .ok (.aload_n 0, 1) := by decide +kernel
theorem dL_law_296 : decode code 296 = .ok (.iload_n 3, 1) := by decide +kernel
theorem dL_law_297 : decode code 297 = .ok (.iconst 3, 1) := by decide +kernel
theorem dL_law_298 : decode code 298 = .ok (.iadd, 1) := by decide +kernel
theorem dL_law_299 : decode code 299 = .ok (.iaload, 1) := by decide +kernel
theorem dL_law_300 : decode code 300 = .ok (.invokevirtual 22, 3) := by decide +kernel
theorem dL_law_303 : decode code 303 = .ok (.if_icmp .eq 1460, 3) := by decide +kernel
theorem dL_law_306 : decode code 306 = .ok (.iconst 0, 1) := by decide +kernel
theorem dL_law_307 : decode code 307 = .ok (.ireturn, 1) := by decide +kernel
theorem dL_law_308 : decode code 308 = .ok (.aload_n 1, 1) := by decide +kernel
theorem dL_law_309 : decode code 309 = .ok (.aload_n 0, 1) := by decide +kernel
theorem dL_law_310 : decode code 310 = .ok (.iload_n 3, 1) := by decide +kernel
theorem dL_law_311 : decode code 311 = .ok (.iconst 1, 1) := by decide +kernel
theorem dL_law_312 : decode code 312 = .ok (.iadd, 1) := by decide +kernel
theorem dL_law_313 : decode code 313 = .ok (.iaload, 1) := by decide +kernel
theorem dL_law_314 : decode code 314 = .ok (.aload_n 0, 1) := by decide +kernel
theorem dL_law_315 : decode code 315 = .ok (.iload_n 3, 1) := by decide +kernel
theorem dL_law_316 : decode code 316 = .ok (.iconst 2, 1) := by decide +kernel
theorem dL_law_317 : decode code 317 = .ok (.iadd, 1) := by decide +kernel
theorem dL_law_318 : decode code 318 = .ok (.iaload, 1) := by decide +kernel
theorem dL_law_319 : decode code 319 = .ok (.invokevirtual 23, 3) := by decide +kernel
theorem dL_law_322 : decode code 322 = .ok (.aload_n 2, 1) := by decide +kernel
theorem dL_law_323 : decode code 323 = .ok (.aload_n 0, 1) := by decide +kernel
theorem dL_law_324 : decode code 324 = .ok (.iload_n 3, 1) := by decide +kernel
theorem dL_law_325 : decode code 325 = .ok (.iconst 1, 1) := by decide +kernel
theorem dL_law_326 : decode code 326 = .ok (.iadd, 1) := by decide +kernel
theorem dL_law_327 : decode code 327 = .ok (.iaload, 1) := by decide +kernel
theorem dL_law_328 : decode code 328 = .ok (.aload_n 0, 1) := by decide +kernel
theorem dL_law_329 : decode code 329 = .ok (.iload_n 3, 1) := by decide +kernel
theorem dL_law_330 : decode code 330 = .ok (.iconst 2, 1) := by decide +kernel
theorem dL_law_331 : decode code 331 = .ok (.iadd, 1) := by decide +kernel
theorem dL_law_332 : decode code 332 = .ok (.iaload, 1) := by decide +kernel
theorem dL_law_333 : decode code 333 = .ok (.invokevirtual 27, 3) := by decide +kernel
theorem dL_law_336 : decode code 336 = .ok (.if_icmp .eq 1427, 3) := by decide +kernel
theorem dL_law_339 : decode code 339 = .ok (.iconst 0, 1) := by decide +kernel
theorem dL_law_340 : decode code 340 = .ok (.ireturn, 1) := by decide +kernel
theorem dL_law_341 : decode code 341 = .ok (.aload_n 1, 1) := by decide +kernel
theorem dL_law_342 : decode code 342 = .ok (.aload_n 0, 1) := by decide +kernel
theorem dL_law_343 : decode code 343 = .ok (.iload_n 3, 1) := by decide +kernel
theorem dL_law_344 : decode code 344 = .ok (.iconst 1, 1) := by decide +kernel
theorem dL_law_345 : decode code 345 = .ok (.iadd, 1) := by decide +kernel
theorem dL_law_346 : decode code 346 = .ok (.iaload, 1) := by decide +kernel
theorem dL_law_347 : decode code 347 = .ok (.aload_n 0, 1) := by decide +kernel
theorem dL_law_348 : decode code 348 = .ok (.iload_n 3, 1) := by decide +kernel
theorem dL_law_349 : decode code 349 = .ok (.iconst 2, 1) := by decide +kernel
theorem dL_law_350 : decode code 350 = .ok (.iadd, 1) := by decide +kernel
theorem dL_law_351 : decode code 351 = .ok (.iaload, 1) := by decide +kernel
theorem dL_law_352 : decode code 352 = .ok (.aload_n 0, 1) := by decide +kernel
theorem dL_law_353 : decode code 353 = .ok (.iload_n 3, 1) := by decide +kernel
theorem dL_law_354 : decode code 354 = .ok (.iconst 3, 1) := by decide +kernel
theorem dL_law_355 : decode code 355 = .ok (.iadd, 1) := by decide +kernel
theorem dL_law_356 : decode code 356 = .ok (.iaload, 1) := by decide +kernel
theorem dL_law_357 : decode code 357 = .ok (.aload_n 0, 1) := by decide +kernel
theorem dL_law_358 : decode code 358 = .ok (.iload_n 3, 1) := by decide +kernel
theorem dL_law_359 : decode code 359 = .ok (.iconst 4, 1) := by decide +kernel
theorem dL_law_360 : decode code 360 = .ok (.iadd, 1) := by decide +kernel
theorem dL_law_361 : decode code 361 = .ok (.iaload, 1) := by decide +kernel
theorem dL_law_362 : decode code 362 = .ok (.invokevirtual 28, 3) := by decide +kernel
theorem dL_law_365 : decode code 365 = .ok (.aload_n 2, 1) := by decide +kernel
theorem dL_law_366 : decode code 366 = .ok (.aload_n 0, 1) := by decide +kernel
theorem dL_law_367 : decode code 367 = .ok (.iload_n 3, 1) := by decide +kernel
theorem dL_law_368 : decode code 368 = .ok (.iconst 1, 1) := by decide +kernel
theorem dL_law_369 : decode code 369 = .ok (.iadd, 1) := by decide +kernel
theorem dL_law_370 : decode code 370 = .ok (.iaload, 1) := by decide +kernel
theorem dL_law_371 : decode code 371 = .ok (.aload_n 0, 1) := by decide +kernel
theorem dL_law_372 : decode code 372 = .ok (.iload_n 3, 1) := by decide +kernel
theorem dL_law_373 : decode code 373 = .ok (.iconst 2, 1) := by decide +kernel
theorem dL_law_374 : decode code 374 = .ok (.iadd, 1) := by decide +kernel
theorem dL_law_375 : decode code 375 = .ok (.iaload, 1) := by decide +kernel
theorem dL_law_376 : decode code 376 = .ok (.aload_n 0, 1) := by decide +kernel
theorem dL_law_377 : decode code 377 = .ok (.iload_n 3, 1) := by decide +kernel
theorem dL_law_378 : decode code 378 = .ok (.iconst 3, 1) := by decide +kernel
theorem dL_law_379 : decode code 379 = .ok (.iadd, 1) := by decide +kernel
theorem dL_law_380 : decode code 380 = .ok (.iaload, 1) := by decide +kernel
theorem dL_law_381 : decode code 381 = .ok (.aload_n 0, 1) := by decide +kernel
theorem dL_law_382 : decode code 382 = .ok (.iload_n 3, 1) := by decide +kernel
theorem dL_law_383 : decode code 383 = .ok (.iconst 4, 1) := by decide +kernel
theorem dL_law_384 : decode code 384 = .ok (.iadd, 1) := by decide +kernel
theorem dL_law_385 : decode code 385 = .ok (.iaload, 1) := by decide +kernel
theorem dL_law_386 : decode code 386 = .ok (.invokevirtual 31, 3) := by decide +kernel
theorem dL_law_389 : decode code 389 = .ok (.if_icmp .eq 1374, 3) := by decide +kernel
theorem dL_law_392 : decode code 392 = .ok (.iconst 0, 1) := by decide +kernel
theorem dL_law_393 : decode code 393 = .ok (.ireturn, 1) := by decide +kernel
theorem dL_law_394 : decode code 394 = .ok (.aload_n 1, 1) := by decide +kernel
theorem dL_law_395 : decode code 395 = .ok (.aload_n 0, 1) := by decide +kernel
theorem dL_law_396 : decode code 396 = .ok (.iload_n 3, 1) := by decide +kernel
theorem dL_law_397 : decode code 397 = .ok (.iconst 1, 1) := by decide +kernel
theorem dL_law_398 : decode code 398 = .ok (.iadd, 1) := by decide +kernel
theorem dL_law_399 : decode code 399 = .ok (.iaload, 1) := by decide +kernel
theorem dL_law_400 : decode code 400 = .ok (.aload_n 0, 1) := by decide +kernel
theorem dL_law_401 : decode code 401 = .ok (.iload_n 3, 1) := by decide +kernel
theorem dL_law_402 : decode code 402 = .ok (.iconst 2, 1) := by decide +kernel
theorem dL_law_403 : decode code 403 = .ok (.iadd, 1) := by decide +kernel
theorem dL_law_404 : decode code 404 = .ok (.iaload, 1) := by decide +kernel
theorem dL_law_405 : decode code 405 = .ok (.aload_n 0, 1) := by decide +kernel
theorem dL_law_406 : decode code 406 = .ok (.iload_n 3, 1) := by decide +kernel
theorem dL_law_407 : decode code 407 = .ok (.iconst 3, 1) := by decide +kernel
theorem dL_law_408 : decode code 408 = .ok (.iadd, 1) := by decide +kernel
theorem dL_law_409 : decode code 409 = .ok (.iaload, 1) := by decide +kernel
theorem dL_law_410 : decode code 410 = .ok (.invokevirtual 32, 3) := by decide +kernel
theorem dL_law_413 : decode code 413 = .ok (.aload_n 2, 1) := by decide +kernel
theorem dL_law_414 : decode code 414 = .ok (.aload_n 0, 1) := by decide +kernel
theorem dL_law_415 : decode code 415 = .ok (.iload_n 3, 1) := by decide +kernel
theorem dL_law_416 : decode code 416 = .ok (.iconst 1, 1) := by decide +kernel
theorem dL_law_417 : decode code 417 = .ok (.iadd, 1) := by decide +kernel
theorem dL_law_418 : decode code 418 = .ok (.iaload, 1) := by decide +kernel
theorem dL_law_419 : decode code 419 = .ok (.aload_n 0, 1) := by decide +kernel
theorem dL_law_420 : decode code 420 = .ok (.iload_n 3, 1) := by decide +kernel
theorem dL_law_421 : decode code 421 = .ok (.iconst 2, 1) := by decide +kernel
theorem dL_law_422 : decode code 422 = .ok (.iadd, 1) := by decide +kernel
theorem dL_law_423 : decode code 423 = .ok (.iaload, 1) := by decide +kernel
theorem dL_law_424 : decode code 424 = .ok (.aload_n 0, 1) := by decide +kernel
theorem dL_law_425 : decode code 425 = .ok (.iload_n 3, 1) := by decide +kernel
theorem dL_law_426 : decode code 426 = .ok (.iconst 3, 1) := by decide +kernel
theorem dL_law_427 : decode code 427 = .ok (.iadd, 1) := by decide +kernel
theorem dL_law_428 : decode code 428 = .ok (.iaload, 1) := by decide +kernel
theorem dL_law_429 : decode code 429 = .ok (.invokevirtual 35, 3) := by decide +kernel
theorem dL_law_432 : decode code 432 = .ok (.if_icmp .eq 1331, 3) := by decide +kernel
theorem dL_law_435 : decode code 435 = .ok (.iconst 0, 1) := by decide +kernel
theorem dL_law_436 : decode code 436 = .ok (.ireturn, 1) := by decide +kernel
theorem dL_law_437 : decode code 437 = .ok (.aload_n 1, 1) := by decide +kernel
theorem dL_law_438 : decode code 438 = .ok (.aload_n 0, 1) := by decide +kernel
theorem dL_law_439 : decode code 439 = .ok (.iload_n 3, 1) := by decide +kernel
theorem dL_law_440 : decode code 440 = .ok (.iconst 1, 1) := by decide +kernel
theorem dL_law_441 : decode code 441 = .ok (.iadd, 1) := by decide +kernel
theorem dL_law_442 : decode code 442 = .ok (.iaload, 1) := by decide +kernel
theorem dL_law_443 : decode code 443 = .ok (.aload_n 0, 1) := by decide +kernel
theorem dL_law_444 : decode code 444 = .ok (.iload_n 3, 1) := by decide +kernel
theorem dL_law_445 : decode code 445 = .ok (.iconst 2, 1) := by decide +kernel
theorem dL_law_446 : decode code 446 = .ok (.iadd, 1) := by decide +kernel
theorem dL_law_447 : decode code 447 = .ok (.iaload, 1) := by decide +kernel
theorem dL_law_448 : decode code 448 = .ok (.aload_n 0, 1) := by decide +kernel
theorem dL_law_449 : decode code 449 = .ok (.iload_n 3, 1) := by decide +kernel
theorem dL_law_450 : decode code 450 = .ok (.iconst 3, 1) := by decide +kernel
theorem dL_law_451 : decode code 451 = .ok (.iadd, 1) := by decide +kernel
theorem dL_law_452 : decode code 452 = .ok (.iaload, 1) := by decide +kernel
theorem dL_law_453 : decode code 453 = .ok (.aload_n 0, 1) := by decide +kernel
theorem dL_law_454 : decode code 454 = .ok (.iload_n 3, 1) := by decide +kernel
theorem dL_law_455 : decode code 455 = .ok (.iconst 4, 1) := by decide +kernel
theorem dL_law_456 : decode code 456 = .ok (.iadd, 1) := by decide +kernel
theorem dL_law_457 : decode code 457 = .ok (.iaload, 1) := by decide +kernel
theorem dL_law_458 : decode code 458 = .ok (.invokevirtual 36, 3) := by decide +kernel
theorem dL_law_461 : decode code 461 = .ok (.aload_n 2, 1) := by decide +kernel
theorem dL_law_462 : decode code 462 = .ok (.aload_n 0, 1) := by decide +kernel
theorem dL_law_463 : decode code 463 = .ok (.iload_n 3, 1) := by decide +kernel
theorem dL_law_464 : decode code 464 = .ok (.iconst 1, 1) := by decide +kernel
theorem dL_law_465 : decode code 465 = .ok (.iadd, 1) := by decide +kernel
theorem dL_law_466 : decode code 466 = .ok (.iaload, 1) := by decide +kernel
theorem dL_law_467 : decode code 467 = .ok (.aload_n 0, 1) := by decide +kernel
theorem dL_law_468 : decode code 468 = .ok (.iload_n 3, 1) := by decide +kernel
theorem dL_law_469 : decode code 469 = .ok (.iconst 2, 1) := by decide +kernel
theorem dL_law_470 : decode code 470 = .ok (.iadd, 1) := by decide +kernel
theorem dL_law_471 : decode code 471 = .ok (.iaload, 1) := by decide +kernel
theorem dL_law_472 : decode code 472 = .ok (.aload_n 0, 1) := by decide +kernel
theorem dL_law_473 : decode code 473 = .ok (.iload_n 3, 1) := by decide +kernel
theorem dL_law_474 : decode code 474 = .ok (.iconst 3, 1) := by decide +kernel
theorem dL_law_475 : decode code 475 = .ok (.iadd, 1) := by decide +kernel
theorem dL_law_476 : decode code 476 = .ok (.iaload, 1) := by decide +kernel
theorem dL_law_477 : decode code 477 = .ok (.aload_n 0, 1) := by decide +kernel
theorem dL_law_478 : decode code 478 = .ok (.iload_n 3, 1) := by decide +kernel
theorem dL_law_479 : decode code 479 = .ok (.iconst 4, 1) := by decide +kernel
theorem dL_law_480 : decode code 480 = .ok (.iadd, 1) := by decide +kernel
theorem dL_law_481 : decode code 481 = .ok (.iaload, 1) := by decide +kernel
theorem dL_law_482 : decode code 482 = .ok (.invokevirtual 39, 3) := by decide +kernel
theorem dL_law_485 : decode code 485 = .ok (.if_icmp .eq 1278, 3) := by decide +kernel
theorem dL_law_488 : decode code 488 = .ok (.iconst 0, 1) := by decide +kernel
theorem dL_law_489 : decode code 489 = .ok (.ireturn, 1) := by decide +kernel
theorem dL_law_490 : decode code 490 = .ok (.aload_n 1, 1) := by decide +kernel
theorem dL_law_491 : decode code 491 = .ok (.aload_n 0, 1) := by decide +kernel
theorem dL_law_492 : decode code 492 = .ok (.iload_n 3, 1) := by decide +kernel
theorem dL_law_493 : decode code 493 = .ok (.iconst 1, 1) := by decide +kernel
theorem dL_law_494 : decode code 494 = .ok (.iadd, 1) := by decide +kernel
theorem dL_law_495 : decode code 495 = .ok (.iaload, 1) := by decide +kernel
theorem dL_law_496 : decode code 496 = .ok (.aload_n 0, 1) := by decide +kernel
theorem dL_law_497 : decode code 497 = .ok (.iload_n 3, 1) := by decide +kernel
theorem dL_law_498 : decode code 498 = .ok (.iconst 2, 1) := by decide +kernel
theorem dL_law_499 : decode code 499 = .ok (.iadd, 1) := by decide +kernel
theorem dL_law_500 : decode code 500 = .ok (.iaload, 1) := by decide +kernel
theorem dL_law_501 : decode code 501 = .ok (.aload_n 0, 1) := by decide +kernel
theorem dL_law_502 : decode code 502 = .ok (.iload_n 3, 1) := by decide +kernel
theorem dL_law_503 : decode code 503 = .ok (.iconst 3, 1) := by decide +kernel
theorem dL_law_504 : decode code 504 = .ok (.iadd, 1) := by decide +kernel
theorem dL_law_505 : decode code 505 = .ok (.iaload, 1) := by decide +kernel
theorem dL_law_506 : decode code 506 = .ok (.aload_n 0, 1) := by decide +kernel
theorem dL_law_507 : decode code 507 = .ok (.iload_n 3, 1) := by decide +kernel
theorem dL_law_508 : decode code 508 = .ok (.iconst 4, 1) := by decide +kernel
theorem dL_law_509 : decode code 509 = .ok (.iadd, 1) := by decide +kernel
theorem dL_law_510 : decode code 510 = .ok (.iaload, 1) := by decide +kernel
theorem dL_law_511 : decode code 511 = .ok (.aload_n 0, 1) := by decide +kernel
theorem dL_law_512 : decode code 512 = .ok (.iload_n 3, 1) := by decide +kernel
theorem dL_law_513 : decode code 513 = .ok (.iconst 5, 1) := by decide +kernel
theorem dL_law_514 : decode code 514 = .ok (.iadd, 1) := by decide +kernel
theorem dL_law_515 : decode code 515 = .ok (.iaload, 1) := by decide +kernel
theorem dL_law_516 : decode code 516 = .ok (.invokevirtual 40, 3) := by decide +kernel
theorem dL_law_519 : decode code 519 = .ok (.aload_n 2, 1) := by decide +kernel
theorem dL_law_520 : decode code 520 = .ok (.aload_n 0, 1) := by decide +kernel
theorem dL_law_521 : decode code 521 = .ok (.iload_n 3, 1) := by decide +kernel
theorem dL_law_522 : decode code 522 = .ok (.iconst 1, 1) := by decide +kernel
theorem dL_law_523 : decode code 523 = .ok (.iadd, 1) := by decide +kernel
theorem dL_law_524 : decode code 524 = .ok (.iaload, 1) := by decide +kernel
theorem dL_law_525 : decode code 525 = .ok (.aload_n 0, 1) := by decide +kernel
theorem dL_law_526 : decode code 526 = .ok (.iload_n 3, 1) := by decide +kernel
theorem dL_law_527 : decode code 527 = .ok (.iconst 2, 1) := by decide +kernel
theorem dL_law_528 : decode code 528 = .ok (.iadd, 1) := by decide +kernel
theorem dL_law_529 : decode code 529 = .ok (.iaload, 1) := by decide +kernel
theorem dL_law_530 : decode code 530 = .ok (.aload_n 0, 1) := by decide +kernel
theorem dL_law_531 : decode code 531 = .ok (.iload_n 3, 1) := by decide +kernel
theorem dL_law_532 : decode code 532 = .ok (.iconst 3, 1) := by decide +kernel
theorem dL_law_533 : decode code 533 = .ok (.iadd, 1) := by decide +kernel
theorem dL_law_534 : decode code 534 = .ok (.iaload, 1) := by decide +kernel
theorem dL_law_535 : decode code 535 = .ok (.aload_n 0, 1) := by decide +kernel
theorem dL_law_536 : decode code 536 = .ok (.iload_n 3, 1) := by decide +kernel
theorem dL_law_537 : decode code 537 = .ok (.iconst 4, 1) := by decide +kernel
theorem dL_law_538 : decode code 538 = .ok (.iadd, 1) := by decide +kernel
theorem dL_law_539 : decode code 539 = .ok (.iaload, 1) := by decide +kernel
theorem dL_law_540 : decode code 540 = .ok (.aload_n 0, 1) := by decide +kernel
theorem dL_law_541 : decode code 541 = .ok (.iload_n 3, 1) := by decide +kernel
theorem dL_law_542 : decode code 542 = .ok (.iconst 5, 1) := by decide +kernel
theorem dL_law_543 : decode code 543 = .ok (.iadd, 1) := by decide +kernel
theorem dL_law_544 : decode code 544 = .ok (.iaload, 1) := by decide +kernel
theorem dL_law_545 : decode code 545 = .ok (.invokevirtual 44, 3) := by decide +kernel
theorem dL_law_548 : decode code 548 = .ok (.if_icmp .eq 1215, 3) := by decide +kernel
theorem dL_law_551 : decode code 551 = .ok (.iconst 0, 1) := by decide +kernel
theorem dL_law_552 : decode code 552 = .ok (.ireturn, 1) := by decide +kernel
theorem dL_law_553 : decode code 553 = .ok (.aload_n 1, 1) := by decide +kernel
theorem dL_law_554 : decode code 554 = .ok (.aload_n 0, 1) := by decide +kernel
theorem dL_law_555 : decode code 555 = .ok (.iload_n 3, 1) := by decide +kernel
theorem dL_law_556 : decode code 556 = .ok (.iconst 1, 1) := by decide +kernel
theorem dL_law_557 : decode code 557 = .ok (.iadd, 1) := by decide +kernel
theorem dL_law_558 : decode code 558 = .ok (.iaload, 1) := by decide +kernel
theorem dL_law_559 : decode code 559 = .ok (.aload_n 0, 1) := by decide +kernel
theorem dL_law_560 : decode code 560 = .ok (.iload_n 3, 1) := by decide +kernel
theorem dL_law_561 : decode code 561 = .ok (.iconst 2, 1) := by decide +kernel
theorem dL_law_562 : decode code 562 = .ok (.iadd, 1) := by decide +kernel
theorem dL_law_563 : decode code 563 = .ok (.iaload, 1) := by decide +kernel
theorem dL_law_564 : decode code 564 = .ok (.invokevirtual 45, 3) := by decide +kernel
theorem dL_law_567 : decode code 567 = .ok (.aload_n 2, 1) := by decide +kernel
theorem dL_law_568 : decode code 568 = .ok (.aload_n 0, 1) := by decide +kernel
theorem dL_law_569 : decode code 569 = .ok (.iload_n 3, 1) := by decide +kernel
theorem dL_law_570 : decode code 570 = .ok (.iconst 1, 1) := by decide +kernel
theorem dL_law_571 : decode code 571 = .ok (.iadd, 1) := by decide +kernel
theorem dL_law_572 : decode code 572 = .ok (.iaload, 1) := by decide +kernel
theorem dL_law_573 : decode code 573 = .ok (.aload_n 0, 1) := by decide +kernel
theorem dL_law_574 : decode code 574 = .ok (.iload_n 3, 1) := by decide +kernel
theorem dL_law_575 : decode code 575 = .ok (.iconst 2, 1) := by decide +kernel
theorem dL_law_576 : decode code 576 = .ok (.iadd, 1) := by decide +kernel
theorem dL_law_577 : decode code 577 = .ok (.iaload, 1) := by decide +kernel
theorem dL_law_578 : decode code 578 = .ok (.invokevirtual 48, 3) := by decide +kernel
theorem dL_law_581 : decode code 581 = .ok (.if_icmp .eq 1182, 3) := by decide +kernel
theorem dL_law_584 : decode code 584 = .ok (.iconst 0, 1) := by decide +kernel
theorem dL_law_585 : decode code 585 = .ok (.ireturn, 1) := by decide +kernel
theorem dL_law_586 : decode code 586 = .ok (.aload_n 1, 1) := by decide +kernel
theorem dL_law_587 : decode code 587 = .ok (.aload_n 0, 1) := by decide +kernel
theorem dL_law_588 : decode code 588 = .ok (.iload_n 3, 1) := by decide +kernel
theorem dL_law_589 : decode code 589 = .ok (.iconst 1, 1) := by decide +kernel
theorem dL_law_590 : decode code 590 = .ok (.iadd, 1) := by decide +kernel
theorem dL_law_591 : decode code 591 = .ok (.iaload, 1) := by decide +kernel
theorem dL_law_592 : decode code 592 = .ok (.invokevirtual 49, 3) := by decide +kernel
theorem dL_law_595 : decode code 595 = .ok (.aload_n 2, 1) := by decide +kernel
theorem dL_law_596 : decode code 596 = .ok (.aload_n 0, 1) := by decide +kernel
theorem dL_law_597 : decode code 597 = .ok (.iload_n 3, 1) := by decide +kernel
theorem dL_law_598 : decode code 598 = .ok (.iconst 1, 1) := by decide +kernel
theorem dL_law_599 : decode code 599 = .ok (.iadd, 1) := by decide +kernel
theorem dL_law_600 : decode code 600 = .ok (.iaload, 1) := by decide +kernel
theorem dL_law_601 : decode code 601 = .ok (.invokevirtual 53, 3) := by decide +kernel
theorem dL_law_604 : decode code 604 = .ok (.if_icmp .eq 1159, 3) := by decide +kernel
theorem dL_law_607 : decode code 607 = .ok (.iconst 0, 1) := by decide +kernel
theorem dL_law_608 : decode code 608 = .ok (.ireturn, 1) := by decide +kernel
theorem dL_law_609 : decode code 609 = .ok (.aload_n 1, 1) := by decide +kernel
theorem dL_law_610 : decode code 610 = .ok (.aload_n 0, 1) := by decide +kernel
theorem dL_law_611 : decode code 611 = .ok (.iload_n 3, 1) := by decide +kernel
theorem dL_law_612 : decode code 612 = .ok (.iconst 1, 1) := by decide +kernel
theorem dL_law_613 : decode code 613 = .ok (.iadd, 1) := by decide +kernel
theorem dL_law_614 : decode code 614 = .ok (.iaload, 1) := by decide +kernel
theorem dL_law_615 : decode code 615 = .ok (.invokevirtual 54, 3) := by decide +kernel
theorem dL_law_618 : decode code 618 = .ok (.aload_n 2, 1) := by decide +kernel
theorem dL_law_619 : decode code 619 = .ok (.aload_n 0, 1) := by decide +kernel
theorem dL_law_620 : decode code 620 = .ok (.iload_n 3, 1) := by decide +kernel
theorem dL_law_621 : decode code 621 = .ok (.iconst 1, 1) := by decide +kernel
theorem dL_law_622 : decode code 622 = .ok (.iadd, 1) := by decide +kernel
theorem dL_law_623 : decode code 623 = .ok (.iaload, 1) := by decide +kernel
theorem dL_law_624 : decode code 624 = .ok (.invokevirtual 57, 3) := by decide +kernel
theorem dL_law_627 : decode code 627 = .ok (.if_icmp .eq 1136, 3) := by decide +kernel
theorem dL_law_630 : decode code 630 = .ok (.iconst 0, 1) := by decide +kernel
theorem dL_law_631 : decode code 631 = .ok (.ireturn, 1) := by decide +kernel
theorem dL_law_632 : decode code 632 = .ok (.aload_n 1, 1) := by decide +kernel
theorem dL_law_633 : decode code 633 = .ok (.aload_n 0, 1) := by decide +kernel
theorem dL_law_634 : decode code 634 = .ok (.iload_n 3, 1) := by decide +kernel
theorem dL_law_635 : decode code 635 = .ok (.iconst 1, 1) := by decide +kernel
theorem dL_law_636 : decode code 636 = .ok (.iadd, 1) := by decide +kernel
theorem dL_law_637 : decode code 637 = .ok (.iaload, 1) := by decide +kernel
theorem dL_law_638 : decode code 638 = .ok (.aload_n 0, 1) := by decide +kernel
theorem dL_law_639 : decode code 639 = .ok (.iload_n 3, 1) := by decide +kernel
theorem dL_law_640 : decode code 640 = .ok (.iconst 2, 1) := by decide +kernel
theorem dL_law_641 : decode code 641 = .ok (.iadd, 1) := by decide +kernel
theorem dL_law_642 : decode code 642 = .ok (.iaload, 1) := by decide +kernel
theorem dL_law_643 : decode code 643 = .ok (.invokevirtual 58, 3) := by decide +kernel
theorem dL_law_646 : decode code 646 = .ok (.aload_n 2, 1) := by decide +kernel
theorem dL_law_647 : decode code 647 = .ok (.aload_n 0, 1) := by decide +kernel
theorem dL_law_648 : decode code 648 = .ok (.iload_n 3, 1) := by decide +kernel
theorem dL_law_649 : decode code 649 = .ok (.iconst 1, 1) := by decide +kernel
theorem dL_law_650 : decode code 650 = .ok (.iadd, 1) := by decide +kernel
theorem dL_law_651 : decode code 651 = .ok (.iaload, 1) := by decide +kernel
theorem dL_law_652 : decode code 652 = .ok (.aload_n 0, 1) := by decide +kernel
theorem dL_law_653 : decode code 653 = .ok (.iload_n 3, 1) := by decide +kernel
theorem dL_law_654 : decode code 654 = .ok (.iconst 2, 1) := by decide +kernel
theorem dL_law_655 : decode code 655 = .ok (.iadd, 1) := by decide +kernel
theorem dL_law_656 : decode code 656 = .ok (.iaload, 1) := by decide +kernel
theorem dL_law_657 : decode code 657 = .ok (.invokevirtual 61, 3) := by decide +kernel
theorem dL_law_660 : decode code 660 = .ok (.if_icmp .eq 1103, 3) := by decide +kernel
theorem dL_law_663 : decode code 663 = .ok (.iconst 0, 1) := by decide +kernel
theorem dL_law_664 : decode code 664 = .ok (.ireturn, 1) := by decide +kernel
theorem dL_law_665 : decode code 665 = .ok (.aload_n 1, 1) := by decide +kernel
theorem dL_law_666 : decode code 666 = .ok (.aload_n 0, 1) := by decide +kernel
theorem dL_law_667 : decode code 667 = .ok (.iload_n 3, 1) := by decide +kernel
theorem dL_law_668 : decode code 668 = .ok (.iconst 1, 1) := by decide +kernel
theorem dL_law_669 : decode code 669 = .ok (.iadd, 1) := by decide +kernel
theorem dL_law_670 : decode code 670 = .ok (.iaload, 1) := by decide +kernel
theorem dL_law_671 : decode code 671 = .ok (.aload_n 0, 1) := by decide +kernel
theorem dL_law_672 : decode code 672 = .ok (.iload_n 3, 1) := by decide +kernel
theorem dL_law_673 : decode code 673 = .ok (.iconst 2, 1) := by decide +kernel
theorem dL_law_674 : decode code 674 = .ok (.iadd, 1) := by decide +kernel
theorem dL_law_675 : decode code 675 = .ok (.iaload, 1) := by decide +kernel
theorem dL_law_676 : decode code 676 = .ok (.aload_n 0, 1) := by decide +kernel
theorem dL_law_677 : decode code 677 = .ok (.iload_n 3, 1) := by decide +kernel
theorem dL_law_678 : decode code 678 = .ok (.iconst 3, 1) := by decide +kernel
theorem dL_law_679 : decode code 679 = .ok (.iadd, 1) := by decide +kernel
theorem dL_law_680 : decode code 680 = .ok (.iaload, 1) := by decide +kernel
theorem dL_law_681 : decode code 681 = .ok (.invokevirtual 62, 3) := by decide +kernel
theorem dL_law_684 : decode code 684 = .ok (.aload_n 2, 1) := by decide +kernel
theorem dL_law_685 : decode code 685 = .ok (.aload_n 0, 1) := by decide +kernel
theorem dL_law_686 : decode code 686 = .ok (.iload_n 3, 1) := by decide +kernel
theorem dL_law_687 : decode code 687 = .ok (.iconst 1, 1) := by decide +kernel
theorem dL_law_688 : decode code 688 = .ok (.iadd, 1) := by decide +kernel
theorem dL_law_689 : decode code 689 = .ok (.iaload, 1) := by decide +kernel
theorem dL_law_690 : decode code 690 = .ok (.aload_n 0, 1) := by decide +kernel
theorem dL_law_691 : decode code 691 = .ok (.iload_n 3, 1) := by decide +kernel
theorem dL_law_692 : decode code 692 = .ok (.iconst 2, 1) := by decide +kernel
theorem dL_law_693 : decode code 693 = .ok (.iadd, 1) := by decide +kernel
theorem dL_law_694 : decode code 694 = .ok (.iaload, 1) := by decide +kernel
theorem dL_law_695 : decode code 695 = .ok (.aload_n 0, 1) := by decide +kernel
theorem dL_law_696 : decode code 696 = .ok (.iload_n 3, 1) := by decide +kernel
theorem dL_law_697 : decode code 697 = .ok (.iconst 3, 1) := by decide +kernel
theorem dL_law_698 : decode code 698 = .ok (.iadd, 1) := by decide +kernel
theorem dL_law_699 : decode code 699 = .ok (.iaload, 1) := by decide +kernel
theorem dL_law_700 : decode code 700 = .ok (.invokevirtual 65, 3) := by decide +kernel
theorem dL_law_703 : decode code 703 = .ok (.if_icmp .eq 1060, 3) := by decide +kernel
theorem dL_law_706 : decode code 706 = .ok (.iconst 0, 1) := by decide +kernel
theorem dL_law_707 : decode code 707 = .ok (.ireturn, 1) := by decide +kernel
theorem dL_law_708 : decode code 708 = .ok (.aload_n 1, 1) := by decide +kernel
theorem dL_law_709 : decode code 709 = .ok (.aload_n 0, 1) := by decide +kernel
theorem dL_law_710 : decode code 710 = .ok (.iload_n 3, 1) := by decide +kernel
theorem dL_law_711 : decode code 711 = .ok (.iconst 1, 1) := by decide +kernel
theorem dL_law_712 : decode code 712 = .ok (.iadd, 1) := by decide +kernel
theorem dL_law_713 : decode code 713 = .ok (.iaload, 1) := by decide +kernel
theorem dL_law_714 : decode code 714 = .ok (.aload_n 0, 1) := by decide +kernel
theorem dL_law_715 : decode code 715 = .ok (.iload_n 3, 1) := by decide +kernel
theorem dL_law_716 : decode code 716 = .ok (.iconst 2, 1) := by decide +kernel
theorem dL_law_717 : decode code 717 = .ok (.iadd, 1) := by decide +kernel
theorem dL_law_718 : decode code 718 = .ok (.iaload, 1) := by decide +kernel
theorem dL_law_719 : decode code 719 = .ok (.aload_n 0, 1) := by decide +kernel
theorem dL_law_720 : decode code 720 = .ok (.iload_n 3, 1) := by decide +kernel
theorem dL_law_721 : decode code 721 = .ok (.iconst 3, 1) := by decide +kernel
theorem dL_law_722 : decode code 722 = .ok (.iadd, 1) := by decide +kernel
theorem dL_law_723 : decode code 723 = .ok (.iaload, 1) := by decide +kernel
theorem dL_law_724 : decode code 724 = .ok (.invokevirtual 66, 3) := by decide +kernel
theorem dL_law_727 : decode code 727 = .ok (.aload_n 2, 1) := by decide +kernel
theorem dL_law_728 : decode code 728 = .ok (.aload_n 0, 1) := by decide +kernel
theorem dL_law_729 : decode code 729 = .ok (.iload_n 3, 1) := by decide +kernel
theorem dL_law_730 : decode code 730 = .ok (.iconst 1, 1) := by decide +kernel
theorem dL_law_731 : decode code 731 = .ok (.iadd, 1) := by decide +kernel
theorem dL_law_732 : decode code 732 = .ok (.iaload, 1) := by decide +kernel
theorem dL_law_733 : decode code 733 = .ok (.aload_n 0, 1) := by decide +kernel
theorem dL_law_734 : decode code 734 = .ok (.iload_n 3, 1) := by decide +kernel
theorem dL_law_735 : decode code 735 = .ok (.iconst 2, 1) := by decide +kernel
theorem dL_law_736 : decode code 736 = .ok (.iadd, 1) := by decide +kernel
theorem dL_law_737 : decode code 737 = .ok (.iaload, 1) := by decide +kernel
theorem dL_law_738 : decode code 738 = .ok (.aload_n 0, 1) := by decide +kernel
theorem dL_law_739 : decode code 739 = .ok (.iload_n 3, 1) := by decide +kernel
theorem dL_law_740 : decode code 740 = .ok (.iconst 3, 1) := by decide +kernel
theorem dL_law_741 : decode code 741 = .ok (.iadd, 1) := by decide +kernel
theorem dL_law_742 : decode code 742 = .ok (.iaload, 1) := by decide +kernel
theorem dL_law_743 : decode code 743 = .ok (.invokevirtual 69, 3) := by decide +kernel
theorem dL_law_746 : decode code 746 = .ok (.if_icmp .eq 1017, 3) := by decide +kernel
theorem dL_law_749 : decode code 749 = .ok (.iconst 0, 1) := by decide +kernel
theorem dL_law_750 : decode code 750 = .ok (.ireturn, 1) := by decide +kernel
theorem dL_law_751 : decode code 751 = .ok (.aload_n 1, 1) := by decide +kernel
theorem dL_law_752 : decode code 752 = .ok (.aload_n 0, 1) := by decide +kernel
theorem dL_law_753 : decode code 753 = .ok (.iload_n 3, 1) := by decide +kernel
theorem dL_law_754 : decode code 754 = .ok (.iconst 1, 1) := by decide +kernel
theorem dL_law_755 : decode code 755 = .ok (.iadd, 1) := by decide +kernel
theorem dL_law_756 : decode code 756 = .ok (.iaload, 1) := by decide +kernel
theorem dL_law_757 : decode code 757 = .ok (.aload_n 0, 1) := by decide +kernel
theorem dL_law_758 : decode code 758 = .ok (.iload_n 3, 1) := by decide +kernel
theorem dL_law_759 : decode code 759 = .ok (.iconst 2, 1) := by decide +kernel
theorem dL_law_760 : decode code 760 = .ok (.iadd, 1) := by decide +kernel
theorem dL_law_761 : decode code 761 = .ok (.iaload, 1) := by decide +kernel
theorem dL_law_762 : decode code 762 = .ok (.invokevirtual 70, 3) := by decide +kernel
theorem dL_law_765 : decode code 765 = .ok (.aload_n 2, 1) := by decide +kernel
theorem dL_law_766 : decode code 766 = .ok (.aload_n 0, 1) := by decide +kernel
theorem dL_law_767 : decode code 767 = .ok (.iload_n 3, 1) := by decide +kernel
theorem dL_law_768 : decode code 768 = .ok (.iconst 1, 1) := by decide +kernel
theorem dL_law_769 : decode code 769 = .ok (.iadd, 1) := by decide +kernel
theorem dL_law_770 : decode code 770 = .ok (.iaload, 1) := by decide +kernel
theorem dL_law_771 : decode code 771 = .ok (.aload_n 0, 1) := by decide +kernel
theorem dL_law_772 : decode code 772 = .ok (.iload_n 3, 1) := by decide +kernel
theorem dL_law_773 : decode code 773 = .ok (.iconst 2, 1) := by decide +kernel
theorem dL_law_774 : decode code 774 = .ok (.iadd, 1) := by decide +kernel
theorem dL_law_775 : decode code 775 = .ok (.iaload, 1) := by decide +kernel
theorem dL_law_776 : decode code 776 = .ok (.invokevirtual 73, 3) := by decide +kernel
theorem dL_law_779 : decode code 779 = .ok (.if_icmp .eq 984, 3) := by decide +kernel
theorem dL_law_782 : decode code 782 = .ok (.iconst 0, 1) := by decide +kernel
theorem dL_law_783 : decode code 783 = .ok (.ireturn, 1) := by decide +kernel
theorem dL_law_784 : decode code 784 = .ok (.aload_n 1, 1) := by decide +kernel
theorem dL_law_785 : decode code 785 = .ok (.aload_n 0, 1) := by decide +kernel
theorem dL_law_786 : decode code 786 = .ok (.iload_n 3, 1) := by decide +kernel
theorem dL_law_787 : decode code 787 = .ok (.iconst 1, 1) := by decide +kernel
theorem dL_law_788 : decode code 788 = .ok (.iadd, 1) := by decide +kernel
theorem dL_law_789 : decode code 789 = .ok (.iaload, 1) := by decide +kernel
theorem dL_law_790 : decode code 790 = .ok (.aload_n 0, 1) := by decide +kernel
theorem dL_law_791 : decode code 791 = .ok (.iload_n 3, 1) := by decide +kernel
theorem dL_law_792 : decode code 792 = .ok (.iconst 2, 1) := by decide +kernel
theorem dL_law_793 : decode code 793 = .ok (.iadd, 1) := by decide +kernel
theorem dL_law_794 : decode code 794 = .ok (.iaload, 1) := by decide +kernel
theorem dL_law_795 : decode code 795 = .ok (.i2l, 1) := by decide +kernel
theorem dL_law_796 : decode code 796 = .ok (.bipush 32, 2) := by decide +kernel
theorem dL_law_798 : decode code 798 = .ok (.lshl, 1) := by decide +kernel
theorem dL_law_799 : decode code 799 = .ok (.aload_n 0, 1) := by decide +kernel
theorem dL_law_800 : decode code 800 = .ok (.iload_n 3, 1) := by decide +kernel
theorem dL_law_801 : decode code 801 = .ok (.iconst 3, 1) := by decide +kernel
theorem dL_law_802 : decode code 802 = .ok (.iadd, 1) := by decide +kernel
theorem dL_law_803 : decode code 803 = .ok (.iaload, 1) := by decide +kernel
theorem dL_law_804 : decode code 804 = .ok (.i2l, 1) := by decide +kernel
theorem dL_law_805 : decode code 805 = .ok (.ldc2_w 74, 3) := by decide +kernel
theorem dL_law_808 : decode code 808 = .ok (.land, 1) := by decide +kernel
theorem dL_law_809 : decode code 809 = .ok (.lor, 1) := by decide +kernel
theorem dL_law_810 : decode code 810 = .ok (.invokevirtual 76, 3) := by decide +kernel
theorem dL_law_813 : decode code 813 = .ok (.aload_n 2, 1) := by decide +kernel
theorem dL_law_814 : decode code 814 = .ok (.aload_n 0, 1) := by decide +kernel
theorem dL_law_815 : decode code 815 = .ok (.iload_n 3, 1) := by decide +kernel
theorem dL_law_816 : decode code 816 = .ok (.iconst 1, 1) := by decide +kernel
theorem dL_law_817 : decode code 817 = .ok (.iadd, 1) := by decide +kernel
theorem dL_law_818 : decode code 818 = .ok (.iaload, 1) := by decide +kernel
theorem dL_law_819 : decode code 819 = .ok (.aload_n 0, 1) := by decide +kernel
theorem dL_law_820 : decode code 820 = .ok (.iload_n 3, 1) := by decide +kernel
theorem dL_law_821 : decode code 821 = .ok (.iconst 2, 1) := by decide +kernel
theorem dL_law_822 : decode code 822 = .ok (.iadd, 1) := by decide +kernel
theorem dL_law_823 : decode code 823 = .ok (.iaload, 1) := by decide +kernel
theorem dL_law_824 : decode code 824 = .ok (.i2l, 1) := by decide +kernel
theorem dL_law_825 : decode code 825 = .ok (.bipush 32, 2) := by decide +kernel
theorem dL_law_827 : decode code 827 = .ok (.lshl, 1) := by decide +kernel
theorem dL_law_828 : decode code 828 = .ok (.aload_n 0, 1) := by decide +kernel
theorem dL_law_829 : decode code 829 = .ok (.iload_n 3, 1) := by decide +kernel
theorem dL_law_830 : decode code 830 = .ok (.iconst 3, 1) := by decide +kernel
theorem dL_law_831 : decode code 831 = .ok (.iadd, 1) := by decide +kernel
theorem dL_law_832 : decode code 832 = .ok (.iaload, 1) := by decide +kernel
theorem dL_law_833 : decode code 833 = .ok (.i2l, 1) := by decide +kernel
theorem dL_law_834 : decode code 834 = .ok (.ldc2_w 74, 3) := by decide +kernel
theorem dL_law_837 : decode code 837 = .ok (.land, 1) := by decide +kernel
theorem dL_law_838 : decode code 838 = .ok (.lor, 1) := by decide +kernel
theorem dL_law_839 : decode code 839 = .ok (.invokevirtual 80, 3) := by decide +kernel
theorem dL_law_842 : decode code 842 = .ok (.if_icmp .eq 921, 3) := by decide +kernel
theorem dL_law_845 : decode code 845 = .ok (.iconst 0, 1) := by decide +kernel
theorem dL_law_846 : decode code 846 = .ok (.ireturn, 1) := by decide +kernel
theorem dL_law_847 : decode code 847 = .ok (.aload_n 1, 1) := by decide +kernel
theorem dL_law_848 : decode code 848 = .ok (.aload_n 0, 1) := by decide +kernel
theorem dL_law_849 : decode code 849 = .ok (.iload_n 3, 1) := by decide +kernel
theorem dL_law_850 : decode code 850 = .ok (.iconst 1, 1) := by decide +kernel
theorem dL_law_851 : decode code 851 = .ok (.iadd, 1) := by decide +kernel
theorem dL_law_852 : decode code 852 = .ok (.iaload, 1) := by decide +kernel
theorem dL_law_853 : decode code 853 = .ok (.aload_n 0, 1) := by decide +kernel
theorem dL_law_854 : decode code 854 = .ok (.iload_n 3, 1) := by decide +kernel
theorem dL_law_855 : decode code 855 = .ok (.iconst 2, 1) := by decide +kernel
theorem dL_law_856 : decode code 856 = .ok (.iadd, 1) := by decide +kernel
theorem dL_law_857 : decode code 857 = .ok (.iaload, 1) := by decide +kernel
theorem dL_law_858 : decode code 858 = .ok (.aload_n 0, 1) := by decide +kernel
theorem dL_law_859 : decode code 859 = .ok (.iload_n 3, 1) := by decide +kernel
theorem dL_law_860 : decode code 860 = .ok (.iconst 3, 1) := by decide +kernel
theorem dL_law_861 : decode code 861 = .ok (.iadd, 1) := by decide +kernel
theorem dL_law_862 : decode code 862 = .ok (.iaload, 1) := by decide +kernel
theorem dL_law_863 : decode code 863 = .ok (.invokevirtual 81, 3) := by decide +kernel
theorem dL_law_866 : decode code 866 = .ok (.aload_n 2, 1) := by decide +kernel
theorem dL_law_867 : decode code 867 = .ok (.aload_n 0, 1) := by decide +kernel
theorem dL_law_868 : decode code 868 = .ok (.iload_n 3, 1) := by decide +kernel
theorem dL_law_869 : decode code 869 = .ok (.iconst 1, 1) := by decide +kernel
theorem dL_law_870 : decode code 870 = .ok (.iadd, 1) := by decide +kernel
theorem dL_law_871 : decode code 871 = .ok (.iaload, 1) := by decide +kernel
theorem dL_law_872 : decode code 872 = .ok (.aload_n 0, 1) := by decide +kernel
theorem dL_law_873 : decode code 873 = .ok (.iload_n 3, 1) := by decide +kernel
theorem dL_law_874 : decode code 874 = .ok (.iconst 2, 1) := by decide +kernel
theorem dL_law_875 : decode code 875 = .ok (.iadd, 1) := by decide +kernel
theorem dL_law_876 : decode code 876 = .ok (.iaload, 1) := by decide +kernel
theorem dL_law_877 : decode code 877 = .ok (.aload_n 0, 1) := by decide +kernel
theorem dL_law_878 : decode code 878 = .ok (.iload_n 3, 1) := by decide +kernel
theorem dL_law_879 : decode code 879 = .ok (.iconst 3, 1) := by decide +kernel
theorem dL_law_880 : decode code 880 = .ok (.iadd, 1) := by decide +kernel
theorem dL_law_881 : decode code 881 = .ok (.iaload, 1) := by decide +kernel
theorem dL_law_882 : decode code 882 = .ok (.invokevirtual 85, 3) := by decide +kernel
theorem dL_law_885 : decode code 885 = .ok (.lcmp, 1) := by decide +kernel
theorem dL_law_886 : decode code 886 = .ok (.ifCond .eq 877, 3) := by decide +kernel
theorem dL_law_889 : decode code 889 = .ok (.iconst 0, 1) := by decide +kernel
theorem dL_law_890 : decode code 890 = .ok (.ireturn, 1) := by decide +kernel
theorem dL_law_891 : decode code 891 = .ok (.aload_n 1, 1) := by decide +kernel
theorem dL_law_892 : decode code 892 = .ok (.aload_n 0, 1) := by decide +kernel
theorem dL_law_893 : decode code 893 = .ok (.iload_n 3, 1) := by decide +kernel
theorem dL_law_894 : decode code 894 = .ok (.iconst 1, 1) := by decide +kernel
theorem dL_law_895 : decode code 895 = .ok (.iadd, 1) := by decide +kernel
theorem dL_law_896 : decode code 896 = .ok (.iaload, 1) := by decide +kernel
theorem dL_law_897 : decode code 897 = .ok (.aload_n 0, 1) := by decide +kernel
theorem dL_law_898 : decode code 898 = .ok (.iload_n 3, 1) := by decide +kernel
theorem dL_law_899 : decode code 899 = .ok (.iconst 2, 1) := by decide +kernel
theorem dL_law_900 : decode code 900 = .ok (.iadd, 1) := by decide +kernel
theorem dL_law_901 : decode code 901 = .ok (.iaload, 1) := by decide +kernel
theorem dL_law_902 : decode code 902 = .ok (.aload_n 0, 1) := by decide +kernel
theorem dL_law_903 : decode code 903 = .ok (.iload_n 3, 1) := by decide +kernel
theorem dL_law_904 : decode code 904 = .ok (.iconst 3, 1) := by decide +kernel
theorem dL_law_905 : decode code 905 = .ok (.iadd, 1) := by decide +kernel
theorem dL_law_906 : decode code 906 = .ok (.iaload, 1) := by decide +kernel
theorem dL_law_907 : decode code 907 = .ok (.i2l, 1) := by decide +kernel
theorem dL_law_908 : decode code 908 = .ok (.bipush 32, 2) := by decide +kernel
theorem dL_law_910 : decode code 910 = .ok (.lshl, 1) := by decide +kernel
theorem dL_law_911 : decode code 911 = .ok (.aload_n 0, 1) := by decide +kernel
theorem dL_law_912 : decode code 912 = .ok (.iload_n 3, 1) := by decide +kernel
theorem dL_law_913 : decode code 913 = .ok (.iconst 4, 1) := by decide +kernel
theorem dL_law_914 : decode code 914 = .ok (.iadd, 1) := by decide +kernel
theorem dL_law_915 : decode code 915 = .ok (.iaload, 1) := by decide +kernel
theorem dL_law_916 : decode code 916 = .ok (.i2l, 1) := by decide +kernel
theorem dL_law_917 : decode code 917 = .ok (.ldc2_w 74, 3) := by decide +kernel
theorem dL_law_920 : decode code 920 = .ok (.land, 1) := by decide +kernel
theorem dL_law_921 : decode code 921 = .ok (.lor, 1) := by decide +kernel
theorem dL_law_922 : decode code 922 = .ok (.invokevirtual 86, 3) := by decide +kernel
theorem dL_law_925 : decode code 925 = .ok (.aload_n 2, 1) := by decide +kernel
theorem dL_law_926 : decode code 926 = .ok (.aload_n 0, 1) := by decide +kernel
theorem dL_law_927 : decode code 927 = .ok (.iload_n 3, 1) := by decide +kernel
theorem dL_law_928 : decode code 928 = .ok (.iconst 1, 1) := by decide +kernel
theorem dL_law_929 : decode code 929 = .ok (.iadd, 1) := by decide +kernel
theorem dL_law_930 : decode code 930 = .ok (.iaload, 1) := by decide +kernel
theorem dL_law_931 : decode code 931 = .ok (.aload_n 0, 1) := by decide +kernel
theorem dL_law_932 : decode code 932 = .ok (.iload_n 3, 1) := by decide +kernel
theorem dL_law_933 : decode code 933 = .ok (.iconst 2, 1) := by decide +kernel
theorem dL_law_934 : decode code 934 = .ok (.iadd, 1) := by decide +kernel
theorem dL_law_935 : decode code 935 = .ok (.iaload, 1) := by decide +kernel
theorem dL_law_936 : decode code 936 = .ok (.aload_n 0, 1) := by decide +kernel
theorem dL_law_937 : decode code 937 = .ok (.iload_n 3, 1) := by decide +kernel
theorem dL_law_938 : decode code 938 = .ok (.iconst 3, 1) := by decide +kernel
theorem dL_law_939 : decode code 939 = .ok (.iadd, 1) := by decide +kernel
theorem dL_law_940 : decode code 940 = .ok (.iaload, 1) := by decide +kernel
theorem dL_law_941 : decode code 941 = .ok (.i2l, 1) := by decide +kernel
theorem dL_law_942 : decode code 942 = .ok (.bipush 32, 2) := by decide +kernel
theorem dL_law_944 : decode code 944 = .ok (.lshl, 1) := by decide +kernel
theorem dL_law_945 : decode code 945 = .ok (.aload_n 0, 1) := by decide +kernel
theorem dL_law_946 : decode code 946 = .ok (.iload_n 3, 1) := by decide +kernel
theorem dL_law_947 : decode code 947 = .ok (.iconst 4, 1) := by decide +kernel
theorem dL_law_948 : decode code 948 = .ok (.iadd, 1) := by decide +kernel
theorem dL_law_949 : decode code 949 = .ok (.iaload, 1) := by decide +kernel
theorem dL_law_950 : decode code 950 = .ok (.i2l, 1) := by decide +kernel
theorem dL_law_951 : decode code 951 = .ok (.ldc2_w 74, 3) := by decide +kernel
theorem dL_law_954 : decode code 954 = .ok (.land, 1) := by decide +kernel
theorem dL_law_955 : decode code 955 = .ok (.lor, 1) := by decide +kernel
theorem dL_law_956 : decode code 956 = .ok (.invokevirtual 90, 3) := by decide +kernel
theorem dL_law_959 : decode code 959 = .ok (.lcmp, 1) := by decide +kernel
theorem dL_law_960 : decode code 960 = .ok (.ifCond .eq 803, 3) := by decide +kernel
theorem dL_law_963 : decode code 963 = .ok (.iconst 0, 1) := by decide +kernel
theorem dL_law_964 : decode code 964 = .ok (.ireturn, 1) := by decide +kernel
theorem dL_law_965 : decode code 965 = .ok (.aload_n 1, 1) := by decide +kernel
theorem dL_law_966 : decode code 966 = .ok (.aload_n 0, 1) := by decide +kernel
theorem dL_law_967 : decode code 967 = .ok (.iload_n 3, 1) := by decide +kernel
theorem dL_law_968 : decode code 968 = .ok (.iconst 1, 1) := by decide +kernel
theorem dL_law_969 : decode code 969 = .ok (.iadd, 1) := by decide +kernel
theorem dL_law_970 : decode code 970 = .ok (.iaload, 1) := by decide +kernel
theorem dL_law_971 : decode code 971 = .ok (.aload_n 0, 1) := by decide +kernel
theorem dL_law_972 : decode code 972 = .ok (.iload_n 3, 1) := by decide +kernel
theorem dL_law_973 : decode code 973 = .ok (.iconst 2, 1) := by decide +kernel
theorem dL_law_974 : decode code 974 = .ok (.iadd, 1) := by decide +kernel
theorem dL_law_975 : decode code 975 = .ok (.iaload, 1) := by decide +kernel
theorem dL_law_976 : decode code 976 = .ok (.i2l, 1) := by decide +kernel
theorem dL_law_977 : decode code 977 = .ok (.bipush 32, 2) := by decide +kernel
theorem dL_law_979 : decode code 979 = .ok (.lshl, 1) := by decide +kernel
theorem dL_law_980 : decode code 980 = .ok (.aload_n 0, 1) := by decide +kernel
theorem dL_law_981 : decode code 981 = .ok (.iload_n 3, 1) := by decide +kernel
theorem dL_law_982 : decode code 982 = .ok (.iconst 3, 1) := by decide +kernel
theorem dL_law_983 : decode code 983 = .ok (.iadd, 1) := by decide +kernel
theorem dL_law_984 : decode code 984 = .ok (.iaload, 1) := by decide +kernel
theorem dL_law_985 : decode code 985 = .ok (.i2l, 1) := by decide +kernel
theorem dL_law_986 : decode code 986 = .ok (.ldc2_w 74, 3) := by decide +kernel
theorem dL_law_989 : decode code 989 = .ok (.land, 1) := by decide +kernel
theorem dL_law_990 : decode code 990 = .ok (.lor, 1) := by decide +kernel
theorem dL_law_991 : decode code 991 = .ok (.invokevirtual 91, 3) := by decide +kernel
theorem dL_law_994 : decode code 994 = .ok (.aload_n 2, 1) := by decide +kernel
theorem dL_law_995 : decode code 995 = .ok (.aload_n 0, 1) := by decide +kernel
theorem dL_law_996 : decode code 996 = .ok (.iload_n 3, 1) := by decide +kernel
theorem dL_law_997 : decode code 997 = .ok (.iconst 1, 1) := by decide +kernel
theorem dL_law_998 : decode code 998 = .ok (.iadd, 1) := by decide +kernel
theorem dL_law_999 : decode code 999 = .ok (.iaload, 1) := by decide +kernel
theorem dL_law_1000 : decode code 1000 = .ok (.aload_n 0, 1) := by decide +kernel
theorem dL_law_1001 : decode code 1001 = .ok (.iload_n 3, 1) := by decide +kernel
theorem dL_law_1002 : decode code 1002 = .ok (.iconst 2, 1) := by decide +kernel
theorem dL_law_1003 : decode code 1003 = .ok (.iadd, 1) := by decide +kernel
theorem dL_law_1004 : decode code 1004 = .ok (.iaload, 1) := by decide +kernel
theorem dL_law_1005 : decode code 1005 = .ok (.i2l, 1) := by decide +kernel
theorem dL_law_1006 : decode code 1006 = .ok (.bipush 32, 2) := by decide +kernel
theorem dL_law_1008 : decode code 1008 = .ok (.lshl, 1) := by decide +kernel
theorem dL_law_1009 : decode code 1009 = .ok (.aload_n 0, 1) := by decide +kernel
theorem dL_law_1010 : decode code 1010 = .ok (.iload_n 3, 1) := by decide +kernel
theorem dL_law_1011 : decode code 1011 = .ok (.iconst 3, 1) := by decide +kernel
theorem dL_law_1012 : decode code 1012 = .ok (.iadd, 1) := by decide +kernel
theorem dL_law_1013 : decode code 1013 = .ok (.iaload, 1) := by decide +kernel
theorem dL_law_1014 : decode code 1014 = .ok (.i2l, 1) := by decide +kernel
theorem dL_law_1015 : decode code 1015 = .ok (.ldc2_w 74, 3) := by decide +kernel
theorem dL_law_1018 : decode code 1018 = .ok (.land, 1) := by decide +kernel
theorem dL_law_1019 : decode code 1019 = .ok (.lor, 1) := by decide +kernel
theorem dL_law_1020 : decode code 1020 = .ok (.invokevirtual 95, 3) := by decide +kernel
theorem dL_law_1023 : decode code 1023 = .ok (.lcmp, 1) := by decide +kernel
theorem dL_law_1024 : decode code 1024 = .ok (.ifCond .eq 739, 3) := by decide +kernel
theorem dL_law_1027 : decode code 1027 = .ok (.iconst 0, 1) := by decide +kernel
theorem dL_law_1028 : decode code 1028 = .ok (.ireturn, 1) := by decide +kernel
theorem dL_law_1029 : decode code 1029 = .ok (.aload_n 1, 1) := by decide +kernel
theorem dL_law_1030 : decode code 1030 = .ok (.aload_n 0, 1) := by decide +kernel
theorem dL_law_1031 : decode code 1031 = .ok (.iload_n 3, 1) := by decide +kernel
theorem dL_law_1032 : decode code 1032 = .ok (.iconst 1, 1) := by decide +kernel
theorem dL_law_1033 : decode code 1033 = .ok (.iadd, 1) := by decide +kernel
theorem dL_law_1034 : decode code 1034 = .ok (.iaload, 1) := by decide +kernel
theorem dL_law_1035 : decode code 1035 = .ok (.aload_n 0, 1) := by decide +kernel
theorem dL_law_1036 : decode code 1036 = .ok (.iload_n 3, 1) := by decide +kernel
theorem dL_law_1037 : decode code 1037 = .ok (.iconst 2, 1) := by decide +kernel
theorem dL_law_1038 : decode code 1038 = .ok (.iadd, 1) := by decide +kernel
theorem dL_law_1039 : decode code 1039 = .ok (.iaload, 1) := by decide +kernel
theorem dL_law_1040 : decode code 1040 = .ok (.invokevirtual 96, 3) := by decide +kernel
theorem dL_law_1043 : decode code 1043 = .ok (.aload_n 2, 1) := by decide +kernel
theorem dL_law_1044 : decode code 1044 = .ok (.aload_n 0, 1) := by decide +kernel
theorem dL_law_1045 : decode code 1045 = .ok (.iload_n 3, 1) := by decide +kernel
theorem dL_law_1046 : decode code 1046 = .ok (.iconst 1, 1) := by decide +kernel
theorem dL_law_1047 : decode code 1047 = .ok (.iadd, 1) := by decide +kernel
theorem dL_law_1048 : decode code 1048 = .ok (.iaload, 1) := by decide +kernel
theorem dL_law_1049 : decode code 1049 = .ok (.aload_n 0, 1) := by decide +kernel
theorem dL_law_1050 : decode code 1050 = .ok (.iload_n 3, 1) := by decide +kernel
theorem dL_law_1051 : decode code 1051 = .ok (.iconst 2, 1) := by decide +kernel
theorem dL_law_1052 : decode code 1052 = .ok (.iadd, 1) := by decide +kernel
theorem dL_law_1053 : decode code 1053 = .ok (.iaload, 1) := by decide +kernel
theorem dL_law_1054 : decode code 1054 = .ok (.invokevirtual 100, 3) := by decide +kernel
theorem dL_law_1057 : decode code 1057 = .ok (.lcmp, 1) := by decide +kernel
theorem dL_law_1058 : decode code 1058 = .ok (.ifCond .eq 705, 3) := by decide +kernel
theorem dL_law_1061 : decode code 1061 = .ok (.iconst 0, 1) := by decide +kernel
theorem dL_law_1062 : decode code 1062 = .ok (.ireturn, 1) := by decide +kernel
theorem dL_law_1063 : decode code 1063 = .ok (.aload_n 1, 1) := by decide +kernel
theorem dL_law_1064 : decode code 1064 = .ok (.aload_n 0, 1) := by decide +kernel
theorem dL_law_1065 : decode code 1065 = .ok (.iload_n 3, 1) := by decide +kernel
theorem dL_law_1066 : decode code 1066 = .ok (.iconst 1, 1) := by decide +kernel
theorem dL_law_1067 : decode code 1067 = .ok (.iadd, 1) := by decide +kernel
theorem dL_law_1068 : decode code 1068 = .ok (.iaload, 1) := by decide +kernel
theorem dL_law_1069 : decode code 1069 = .ok (.aload_n 0, 1) := by decide +kernel
theorem dL_law_1070 : decode code 1070 = .ok (.iload_n 3, 1) := by decide +kernel
theorem dL_law_1071 : decode code 1071 = .ok (.iconst 2, 1) := by decide +kernel
theorem dL_law_1072 : decode code 1072 = .ok (.iadd, 1) := by decide +kernel
theorem dL_law_1073 : decode code 1073 = .ok (.iaload, 1) := by decide +kernel
theorem dL_law_1074 : decode code 1074 = .ok (.invokevirtual 101, 3) := by decide +kernel
theorem dL_law_1077 : decode code 1077 = .ok (.aload_n 2, 1) := by decide +kernel
theorem dL_law_1078 : decode code 1078 = .ok (.aload_n 0, 1) := by decide +kernel
theorem dL_law_1079 : decode code 1079 = .ok (.iload_n 3, 1) := by decide +kernel
theorem dL_law_1080 : decode code 1080 = .ok (.iconst 1, 1) := by decide +kernel
theorem dL_law_1081 : decode code 1081 = .ok (.iadd, 1) := by decide +kernel
theorem dL_law_1082 : decode code 1082 = .ok (.iaload, 1) := by decide +kernel
theorem dL_law_1083 : decode code 1083 = .ok (.aload_n 0, 1) := by decide +kernel
theorem dL_law_1084 : decode code 1084 = .ok (.iload_n 3, 1) := by decide +kernel
theorem dL_law_1085 : decode code 1085 = .ok (.iconst 2, 1) := by decide +kernel
theorem dL_law_1086 : decode code 1086 = .ok (.iadd, 1) := by decide +kernel
theorem dL_law_1087 : decode code 1087 = .ok (.iaload, 1) := by decide +kernel
theorem dL_law_1088 : decode code 1088 = .ok (.invokevirtual 104, 3) := by decide +kernel
theorem dL_law_1091 : decode code 1091 = .ok (.if_icmp .eq 672, 3) := by decide +kernel
theorem dL_law_1094 : decode code 1094 = .ok (.iconst 0, 1) := by decide +kernel
theorem dL_law_1095 : decode code 1095 = .ok (.ireturn, 1) := by decide +kernel
theorem dL_law_1096 : decode code 1096 = .ok (.aload_n 1, 1) := by decide +kernel
theorem dL_law_1097 : decode code 1097 = .ok (.aload_n 0, 1) := by decide +kernel
theorem dL_law_1098 : decode code 1098 = .ok (.iload_n 3, 1) := by decide +kernel
theorem dL_law_1099 : decode code 1099 = .ok (.iconst 1, 1) := by decide +kernel
theorem dL_law_1100 : decode code 1100 = .ok (.iadd, 1) := by decide +kernel
theorem dL_law_1101 : decode code 1101 = .ok (.iaload, 1) := by decide +kernel
theorem dL_law_1102 : decode code 1102 = .ok (.aload_n 0, 1) := by decide +kernel
theorem dL_law_1103 : decode code 1103 = .ok (.iload_n 3, 1) := by decide +kernel
theorem dL_law_1104 : decode code 1104 = .ok (.iconst 2, 1) := by decide +kernel
theorem dL_law_1105 : decode code 1105 = .ok (.iadd, 1) := by decide +kernel
theorem dL_law_1106 : decode code 1106 = .ok (.iaload, 1) := by decide +kernel
theorem dL_law_1107 : decode code 1107 = .ok (.aload_n 0, 1) := by decide +kernel
theorem dL_law_1108 : decode code 1108 = .ok (.iload_n 3, 1) := by decide +kernel
theorem dL_law_1109 : decode code 1109 = .ok (.iconst 3, 1) := by decide +kernel
theorem dL_law_1110 : decode code 1110 = .ok (.iadd, 1) := by decide +kernel
theorem dL_law_1111 : decode code 1111 = .ok (.iaload, 1) := by decide +kernel
theorem dL_law_1112 : decode code 1112 = .ok (.aload_n 0, 1) := by decide +kernel
theorem dL_law_1113 : decode code 1113 = .ok (.iload_n 3, 1) := by decide +kernel
theorem dL_law_1114 : decode code 1114 = .ok (.iconst 4, 1) := by decide +kernel
theorem dL_law_1115 : decode code 1115 = .ok (.iadd, 1) := by decide +kernel
theorem dL_law_1116 : decode code 1116 = .ok (.iaload, 1) := by decide +kernel
theorem dL_law_1117 : decode code 1117 = .ok (.invokevirtual 105, 3) := by decide +kernel
theorem dL_law_1120 : decode code 1120 = .ok (.aload_n 2, 1) := by decide +kernel
theorem dL_law_1121 : decode code 1121 = .ok (.aload_n 0, 1) := by decide +kernel
theorem dL_law_1122 : decode code 1122 = .ok (.iload_n 3, 1) := by decide +kernel
theorem dL_law_1123 : decode code 1123 = .ok (.iconst 1, 1) := by decide +kernel
theorem dL_law_1124 : decode code 1124 = .ok (.iadd, 1) := by decide +kernel
theorem dL_law_1125 : decode code 1125 = .ok (.iaload, 1) := by decide +kernel
theorem dL_law_1126 : decode code 1126 = .ok (.aload_n 0, 1) := by decide +kernel
theorem dL_law_1127 : decode code 1127 = .ok (.iload_n 3, 1) := by decide +kernel
theorem dL_law_1128 : decode code 1128 = .ok (.iconst 2, 1) := by decide +kernel
theorem dL_law_1129 : decode code 1129 = .ok (.iadd, 1) := by decide +kernel
theorem dL_law_1130 : decode code 1130 = .ok (.iaload, 1) := by decide +kernel
theorem dL_law_1131 : decode code 1131 = .ok (.aload_n 0, 1) := by decide +kernel
theorem dL_law_1132 : decode code 1132 = .ok (.iload_n 3, 1) := by decide +kernel
theorem dL_law_1133 : decode code 1133 = .ok (.iconst 3, 1) := by decide +kernel
theorem dL_law_1134 : decode code 1134 = .ok (.iadd, 1) := by decide +kernel
theorem dL_law_1135 : decode code 1135 = .ok (.iaload, 1) := by decide +kernel
theorem dL_law_1136 : decode code 1136 = .ok (.aload_n 0, 1) := by decide +kernel
theorem dL_law_1137 : decode code 1137 = .ok (.iload_n 3, 1) := by decide +kernel
theorem dL_law_1138 : decode code 1138 = .ok (.iconst 4, 1) := by decide +kernel
theorem dL_law_1139 : decode code 1139 = .ok (.iadd, 1) := by decide +kernel
theorem dL_law_1140 : decode code 1140 = .ok (.iaload, 1) := by decide +kernel
theorem dL_law_1141 : decode code 1141 = .ok (.invokevirtual 108, 3) := by decide +kernel
theorem dL_law_1144 : decode code 1144 = .ok (.if_icmp .eq 619, 3) := by decide +kernel
theorem dL_law_1147 : decode code 1147 = .ok (.iconst 0, 1) := by decide +kernel
theorem dL_law_1148 : decode code 1148 = .ok (.ireturn, 1) := by decide +kernel
theorem dL_law_1149 : decode code 1149 = .ok (.aload_n 1, 1) := by decide +kernel
theorem dL_law_1150 : decode code 1150 = .ok (.aload_n 0, 1) := by decide +kernel
theorem dL_law_1151 : decode code 1151 = .ok (.iload_n 3, 1) := by decide +kernel
theorem dL_law_1152 : decode code 1152 = .ok (.iconst 1, 1) := by decide +kernel
theorem dL_law_1153 : decode code 1153 = .ok (.iadd, 1) := by decide +kernel
theorem dL_law_1154 : decode code 1154 = .ok (.iaload, 1) := by decide +kernel
theorem dL_law_1155 : decode code 1155 = .ok (.aload_n 0, 1) := by decide +kernel
theorem dL_law_1156 : decode code 1156 = .ok (.iload_n 3, 1) := by decide +kernel
theorem dL_law_1157 : decode code 1157 = .ok (.iconst 2, 1) := by decide +kernel
theorem dL_law_1158 : decode code 1158 = .ok (.iadd, 1) := by decide +kernel
theorem dL_law_1159 : decode code 1159 = .ok (.iaload, 1) := by decide +kernel
theorem dL_law_1160 : decode code 1160 = .ok (.invokevirtual 109, 3) := by decide +kernel
theorem dL_law_1163 : decode code 1163 = .ok (.aload_n 2, 1) := by decide +kernel
theorem dL_law_1164 : decode code 1164 = .ok (.aload_n 0, 1) := by decide +kernel
theorem dL_law_1165 : decode code 1165 = .ok (.iload_n 3, 1) := by decide +kernel
theorem dL_law_1166 : decode code 1166 = .ok (.iconst 1, 1) := by decide +kernel
theorem dL_law_1167 : decode code 1167 = .ok (.iadd, 1) := by decide +kernel
theorem dL_law_1168 : decode code 1168 = .ok (.iaload, 1) := by decide +kernel
theorem dL_law_1169 : decode code 1169 = .ok (.aload_n 0, 1) := by decide +kernel
theorem dL_law_1170 : decode code 1170 = .ok (.iload_n 3, 1) := by decide +kernel
theorem dL_law_1171 : decode code 1171 = .ok (.iconst 2, 1) := by decide +kernel
theorem dL_law_1172 : decode code 1172 = .ok (.iadd, 1) := by decide +kernel
theorem dL_law_1173 : decode code 1173 = .ok (.iaload, 1) := by decide +kernel
theorem dL_law_1174 : decode code 1174 = .ok (.invokevirtual 112, 3) := by decide +kernel
theorem dL_law_1177 : decode code 1177 = .ok (.if_icmp .eq 586, 3) := by decide +kernel
theorem dL_law_1180 : decode code 1180 = .ok (.iconst 0, 1) := by decide +kernel
theorem dL_law_1181 : decode code 1181 = .ok (.ireturn, 1) := by decide +kernel
theorem dL_law_1182 : decode code 1182 = .ok (.aload_n 1, 1) := by decide +kernel
theorem dL_law_1183 : decode code 1183 = .ok (.aload_n 0, 1) := by decide +kernel
theorem dL_law_1184 : decode code 1184 = .ok (.iload_n 3, 1) := by decide +kernel
theorem dL_law_1185 : decode code 1185 = .ok (.iconst 1, 1) := by decide +kernel
theorem dL_law_1186 : decode code 1186 = .ok (.iadd, 1) := by decide +kernel
theorem dL_law_1187 : decode code 1187 = .ok (.iaload, 1) := by decide +kernel
theorem dL_law_1188 : decode code 1188 = .ok (.aload_n 0, 1) := by decide +kernel
theorem dL_law_1189 : decode code 1189 = .ok (.iload_n 3, 1) := by decide +kernel
theorem dL_law_1190 : decode code 1190 = .ok (.iconst 2, 1) := by decide +kernel
theorem dL_law_1191 : decode code 1191 = .ok (.iadd, 1) := by decide +kernel
theorem dL_law_1192 : decode code 1192 = .ok (.iaload, 1) := by decide +kernel
theorem dL_law_1193 : decode code 1193 = .ok (.aload_n 0, 1) := by decide +kernel
theorem dL_law_1194 : decode code 1194 = .ok (.iload_n 3, 1) := by decide +kernel
theorem dL_law_1195 : decode code 1195 = .ok (.iconst 3, 1) := by decide +kernel
theorem dL_law_1196 : decode code 1196 = .ok (.iadd, 1) := by decide +kernel
theorem dL_law_1197 : decode code 1197 = .ok (.iaload, 1) := by decide +kernel
theorem dL_law_1198 : decode code 1198 = .ok (.invokevirtual 113, 3) := by decide +kernel
theorem dL_law_1201 : decode code 1201 = .ok (.aload_n 2, 1) := by decide +kernel
theorem dL_law_1202 : decode code 1202 = .ok (.aload_n 0, 1) := by decide +kernel
theorem dL_law_1203 : decode code 1203 = .ok (.iload_n 3, 1) := by decide +kernel
theorem dL_law_1204 : decode code 1204 = .ok (.iconst 1, 1) := by decide +kernel
theorem dL_law_1205 : decode code 1205 = .ok (.iadd, 1) := by decide +kernel
theorem dL_law_1206 : decode code 1206 = .ok (.iaload, 1) := by decide +kernel
theorem dL_law_1207 : decode code 1207 = .ok (.aload_n 0, 1) := by decide +kernel
theorem dL_law_1208 : decode code 1208 = .ok (.iload_n 3, 1) := by decide +kernel
theorem dL_law_1209 : decode code 1209 = .ok (.iconst 2, 1) := by decide +kernel
theorem dL_law_1210 : decode code 1210 = .ok (.iadd, 1) := by decide +kernel
theorem dL_law_1211 : decode code 1211 = .ok (.iaload, 1) := by decide +kernel
theorem dL_law_1212 : decode code 1212 = .ok (.aload_n 0, 1) := by decide +kernel
theorem dL_law_1213 : decode code 1213 = .ok (.iload_n 3, 1) := by decide +kernel
theorem dL_law_1214 : decode code 1214 = .ok (.iconst 3, 1) := by decide +kernel
theorem dL_law_1215 : decode code 1215 = .ok (.iadd, 1) := by decide +kernel
theorem dL_law_1216 : decode code 1216 = .ok (.iaload, 1) := by decide +kernel
theorem dL_law_1217 : decode code 1217 = .ok (.invokevirtual 116, 3) := by decide +kernel
theorem dL_law_1220 : decode code 1220 = .ok (.lcmp, 1) := by decide +kernel
theorem dL_law_1221 : decode code 1221 = .ok (.ifCond .eq 542, 3) := by decide +kernel
theorem dL_law_1224 : decode code 1224 = .ok (.iconst 0, 1) := by decide +kernel
theorem dL_law_1225 : decode code 1225 = .ok (.ireturn, 1) := by decide +kernel
theorem dL_law_1226 : decode code 1226 = .ok (.aload_n 1, 1) := by decide +kernel
theorem dL_law_1227 : decode code 1227 = .ok (.aload_n 0, 1) := by decide +kernel
theorem dL_law_1228 : decode code 1228 = .ok (.iload_n 3, 1) := by decide +kernel
theorem dL_law_1229 : decode code 1229 = .ok (.iconst 1, 1) := by decide +kernel
theorem dL_law_1230 : decode code 1230 = .ok (.iadd, 1) := by decide +kernel
theorem dL_law_1231 : decode code 1231 = .ok (.iaload, 1) := by decide +kernel
theorem dL_law_1232 : decode code 1232 = .ok (.aload_n 0, 1) := by decide +kernel
theorem dL_law_1233 : decode code 1233 = .ok (.iload_n 3, 1) := by decide +kernel
theorem dL_law_1234 : decode code 1234 = .ok (.iconst 2, 1) := by decide +kernel
theorem dL_law_1235 : decode code 1235 = .ok (.iadd, 1) := by decide +kernel
theorem dL_law_1236 : decode code 1236 = .ok (.iaload, 1) := by decide +kernel
theorem dL_law_1237 : decode code 1237 = .ok (.aload_n 0, 1) := by decide +kernel
theorem dL_law_1238 : decode code 1238 = .ok (.iload_n 3, 1) := by decide +kernel
theorem dL_law_1239 : decode code 1239 = .ok (.iconst 3, 1) := by decide +kernel
theorem dL_law_1240 : decode code 1240 = .ok (.iadd, 1) := by decide +kernel
theorem dL_law_1241 : decode code 1241 = .ok (.iaload, 1) := by decide +kernel
theorem dL_law_1242 : decode code 1242 = .ok (.aload_n 0, 1) := by decide +kernel
theorem dL_law_1243 : decode code 1243 = .ok (.iload_n 3, 1) := by decide +kernel
theorem dL_law_1244 : decode code 1244 = .ok (.iconst 4, 1) := by decide +kernel
theorem dL_law_1245 : decode code 1245 = .ok (.iadd, 1) := by decide +kernel
theorem dL_law_1246 : decode code 1246 = .ok (.iaload, 1) := by decide +kernel
theorem dL_law_1247 : decode code 1247 = .ok (.invokevirtual 117, 3) := by decide +kernel
theorem dL_law_1250 : decode code 1250 = .ok (.aload_n 2, 1) := by decide +kernel
theorem dL_law_1251 : decode code 1251 = .ok (.aload_n 0, 1) := by decide +kernel
theorem dL_law_1252 : decode code 1252 = .ok (.iload_n 3, 1) := by decide +kernel
theorem dL_law_1253 : decode code 1253 = .ok (.iconst 1, 1) := by decide +kernel
theorem dL_law_1254 : decode code 1254 = .ok (.iadd, 1) := by decide +kernel
theorem dL_law_1255 : decode code 1255 = .ok (.iaload, 1) := by decide +kernel
theorem dL_law_1256 : decode code 1256 = .ok (.aload_n 0, 1) := by decide +kernel
theorem dL_law_1257 : decode code 1257 = .ok (.iload_n 3, 1) := by decide +kernel
theorem dL_law_1258 : decode code 1258 = .ok (.iconst 2, 1) := by decide +kernel
theorem dL_law_1259 : decode code 1259 = .ok (.iadd, 1) := by decide +kernel
theorem dL_law_1260 : decode code 1260 = .ok (.iaload, 1) := by decide +kernel
theorem dL_law_1261 : decode code 1261 = .ok (.aload_n 0, 1) := by decide +kernel
theorem dL_law_1262 : decode code 1262 = .ok (.iload_n 3, 1) := by decide +kernel
theorem dL_law_1263 : decode code 1263 = .ok (.iconst 3, 1) := by decide +kernel
theorem dL_law_1264 : decode code 1264 = .ok (.iadd, 1) := by decide +kernel
theorem dL_law_1265 : decode code 1265 = .ok (.iaload, 1) := by decide +kernel
theorem dL_law_1266 : decode code 1266 = .ok (.aload_n 0, 1) := by decide +kernel
theorem dL_law_1267 : decode code 1267 = .ok (.iload_n 3, 1) := by decide +kernel
theorem dL_law_1268 : decode code 1268 = .ok (.iconst 4, 1) := by decide +kernel
theorem dL_law_1269 : decode code 1269 = .ok (.iadd, 1) := by decide +kernel
theorem dL_law_1270 : decode code 1270 = .ok (.iaload, 1) := by decide +kernel
theorem dL_law_1271 : decode code 1271 = .ok (.invokevirtual 120, 3) := by decide +kernel
theorem dL_law_1274 : decode code 1274 = .ok (.if_icmp .eq 489, 3) := by decide +kernel
theorem dL_law_1277 : decode code 1277 = .ok (.iconst 0, 1) := by decide +kernel
theorem dL_law_1278 : decode code 1278 = .ok (.ireturn, 1) := by decide +kernel
theorem dL_law_1279 : decode code 1279 = .ok (.aload_n 1, 1) := by decide +kernel
theorem dL_law_1280 : decode code 1280 = .ok (.aload_n 0, 1) := by decide +kernel
theorem dL_law_1281 : decode code 1281 = .ok (.iload_n 3, 1) := by decide +kernel
theorem dL_law_1282 : decode code 1282 = .ok (.iconst 1, 1) := by decide +kernel
theorem dL_law_1283 : decode code 1283 = .ok (.iadd, 1) := by decide +kernel
theorem dL_law_1284 : decode code 1284 = .ok (.iaload, 1) := by decide +kernel
theorem dL_law_1285 : decode code 1285 = .ok (.aload_n 0, 1) := by decide +kernel
theorem dL_law_1286 : decode code 1286 = .ok (.iload_n 3, 1) := by decide +kernel
theorem dL_law_1287 : decode code 1287 = .ok (.iconst 2, 1) := by decide +kernel
theorem dL_law_1288 : decode code 1288 = .ok (.iadd, 1) := by decide +kernel
theorem dL_law_1289 : decode code 1289 = .ok (.iaload, 1) := by decide +kernel
theorem dL_law_1290 : decode code 1290 = .ok (.i2l, 1) := by decide +kernel
theorem dL_law_1291 : decode code 1291 = .ok (.bipush 32, 2) := by decide +kernel
theorem dL_law_1293 : decode code 1293 = .ok (.lshl, 1) := by decide +kernel
theorem dL_law_1294 : decode code 1294 = .ok (.aload_n 0, 1) := by decide +kernel
theorem dL_law_1295 : decode code 1295 = .ok (.iload_n 3, 1) := by decide +kernel
theorem dL_law_1296 : decode code 1296 = .ok (.iconst 3, 1) := by decide +kernel
theorem dL_law_1297 : decode code 1297 = .ok (.iadd, 1) := by decide +kernel
theorem dL_law_1298 : decode code 1298 = .ok (.iaload, 1) := by decide +kernel
theorem dL_law_1299 : decode code 1299 = .ok (.i2l, 1) := by decide +kernel
theorem dL_law_1300 : decode code 1300 = .ok (.ldc2_w 74, 3) := by decide +kernel
theorem dL_law_1303 : decode code 1303 = .ok (.land, 1) := by decide +kernel
theorem dL_law_1304 : decode code 1304 = .ok (.lor, 1) := by decide +kernel
theorem dL_law_1305 : decode code 1305 = .ok (.invokevirtual 121, 3) := by decide +kernel
theorem dL_law_1308 : decode code 1308 = .ok (.aload_n 2, 1) := by decide +kernel
theorem dL_law_1309 : decode code 1309 = .ok (.aload_n 0, 1) := by decide +kernel
theorem dL_law_1310 : decode code 1310 = .ok (.iload_n 3, 1) := by decide +kernel
theorem dL_law_1311 : decode code 1311 = .ok (.iconst 1, 1) := by decide +kernel
theorem dL_law_1312 : decode code 1312 = .ok (.iadd, 1) := by decide +kernel
theorem dL_law_1313 : decode code 1313 = .ok (.iaload, 1) := by decide +kernel
theorem dL_law_1314 : decode code 1314 = .ok (.aload_n 0, 1) := by decide +kernel
theorem dL_law_1315 : decode code 1315 = .ok (.iload_n 3, 1) := by decide +kernel
theorem dL_law_1316 : decode code 1316 = .ok (.iconst 2, 1) := by decide +kernel
theorem dL_law_1317 : decode code 1317 = .ok (.iadd, 1) := by decide +kernel
theorem dL_law_1318 : decode code 1318 = .ok (.iaload, 1) := by decide +kernel
theorem dL_law_1319 : decode code 1319 = .ok (.i2l, 1) := by decide +kernel
theorem dL_law_1320 : decode code 1320 = .ok (.bipush 32, 2) := by decide +kernel
theorem dL_law_1322 : decode code 1322 = .ok (.lshl, 1) := by decide +kernel
theorem dL_law_1323 : decode code 1323 = .ok (.aload_n 0, 1) := by decide +kernel
theorem dL_law_1324 : decode code 1324 = .ok (.iload_n 3, 1) := by decide +kernel
theorem dL_law_1325 : decode code 1325 = .ok (.iconst 3, 1) := by decide +kernel
theorem dL_law_1326 : decode code 1326 = .ok (.iadd, 1) := by decide +kernel
theorem dL_law_1327 : decode code 1327 = .ok (.iaload, 1) := by decide +kernel
theorem dL_law_1328 : decode code 1328 = .ok (.i2l, 1) := by decide +kernel
theorem dL_law_1329 : decode code 1329 = .ok (.ldc2_w 74, 3) := by decide +kernel
theorem dL_law_1332 : decode code 1332 = .ok (.land, 1) := by decide +kernel
theorem dL_law_1333 : decode code 1333 = .ok (.lor, 1) := by decide +kernel
theorem dL_law_1334 : decode code 1334 = .ok (.invokevirtual 124, 3) := by decide +kernel
theorem dL_law_1337 : decode code 1337 = .ok (.if_icmp .eq 426, 3) := by decide +kernel
theorem dL_law_1340 : decode code 1340 = .ok (.iconst 0, 1) := by decide +kernel
theorem dL_law_1341 : decode code 1341 = .ok (.ireturn, 1) := by decide +kernel
theorem dL_law_1342 : decode code 1342 = .ok (.aload_n 1, 1) := by decide +kernel
theorem dL_law_1343 : decode code 1343 = .ok (.aload_n 0, 1) := by decide +kernel
theorem dL_law_1344 : decode code 1344 = .ok (.iload_n 3, 1) := by decide +kernel
theorem dL_law_1345 : decode code 1345 = .ok (.iconst 1, 1) := by decide +kernel
theorem dL_law_1346 : decode code 1346 = .ok (.iadd, 1) := by decide +kernel
theorem dL_law_1347 : decode code 1347 = .ok (.iaload, 1) := by decide +kernel
theorem dL_law_1348 : decode code 1348 = .ok (.invokevirtual 125, 3) := by decide +kernel
theorem dL_law_1351 : decode code 1351 = .ok (.aload_n 2, 1) := by decide +kernel
theorem dL_law_1352 : decode code 1352 = .ok (.aload_n 0, 1) := by decide +kernel
theorem dL_law_1353 : decode code 1353 = .ok (.iload_n 3, 1) := by decide +kernel
theorem dL_law_1354 : decode code 1354 = .ok (.iconst 1, 1) := by decide +kernel
theorem dL_law_1355 : decode code 1355 = .ok (.iadd, 1) := by decide +kernel
theorem dL_law_1356 : decode code 1356 = .ok (.iaload, 1) := by decide +kernel
theorem dL_law_1357 : decode code 1357 = .ok (.invokevirtual 128, 3) := by decide +kernel
theorem dL_law_1360 : decode code 1360 = .ok (.if_icmp .eq 403, 3) := by decide +kernel
theorem dL_law_1363 : decode code 1363 = .ok (.iconst 0, 1) := by decide +kernel
theorem dL_law_1364 : decode code 1364 = .ok (.ireturn, 1) := by decide +kernel
theorem dL_law_1365 : decode code 1365 = .ok (.aload_n 1, 1) := by decide +kernel
theorem dL_law_1366 : decode code 1366 = .ok (.invokevirtual 129, 3) := by decide +kernel
theorem dL_law_1369 : decode code 1369 = .ok (.aload_n 2, 1) := by decide +kernel
theorem dL_law_1370 : decode code 1370 = .ok (.invokevirtual 133, 3) := by decide +kernel
theorem dL_law_1373 : decode code 1373 = .ok (.if_icmp .eq 390, 3) := by decide +kernel
theorem dL_law_1376 : decode code 1376 = .ok (.iconst 0, 1) := by decide +kernel
theorem dL_law_1377 : decode code 1377 = .ok (.ireturn, 1) := by decide +kernel
theorem dL_law_1378 : decode code 1378 = .ok (.aload_n 1, 1) := by decide +kernel
theorem dL_law_1379 : decode code 1379 = .ok (.aload_n 0, 1) := by decide +kernel
theorem dL_law_1380 : decode code 1380 = .ok (.iload_n 3, 1) := by decide +kernel
theorem dL_law_1381 : decode code 1381 = .ok (.iconst 1, 1) := by decide +kernel
theorem dL_law_1382 : decode code 1382 = .ok (.iadd, 1) := by decide +kernel
theorem dL_law_1383 : decode code 1383 = .ok (.iaload, 1) := by decide +kernel
theorem dL_law_1384 : decode code 1384 = .ok (.i2l, 1) := by decide +kernel
theorem dL_law_1385 : decode code 1385 = .ok (.bipush 32, 2) := by decide +kernel
theorem dL_law_1387 : decode code 1387 = .ok (.lshl, 1) := by decide +kernel
theorem dL_law_1388 : decode code 1388 = .ok (.aload_n 0, 1) := by decide +kernel
theorem dL_law_1389 : decode code 1389 = .ok (.iload_n 3, 1) := by decide +kernel
theorem dL_law_1390 : decode code 1390 = .ok (.iconst 2, 1) := by decide +kernel
theorem dL_law_1391 : decode code 1391 = .ok (.iadd, 1) := by decide +kernel
theorem dL_law_1392 : decode code 1392 = .ok (.iaload, 1) := by decide +kernel
theorem dL_law_1393 : decode code 1393 = .ok (.i2l, 1) := by decide +kernel
theorem dL_law_1394 : decode code 1394 = .ok (.ldc2_w 74, 3) := by decide +kernel
theorem dL_law_1397 : decode code 1397 = .ok (.land, 1) := by decide +kernel
theorem dL_law_1398 : decode code 1398 = .ok (.lor, 1) := by decide +kernel
theorem dL_law_1399 : decode code 1399 = .ok (.invokevirtual 134, 3) := by decide +kernel
theorem dL_law_1402 : decode code 1402 = .ok (.aload_n 2, 1) := by decide +kernel
theorem dL_law_1403 : decode code 1403 = .ok (.aload_n 0, 1) := by decide +kernel
theorem dL_law_1404 : decode code 1404 = .ok (.iload_n 3, 1) := by decide +kernel
theorem dL_law_1405 : decode code 1405 = .ok (.iconst 1, 1) := by decide +kernel
theorem dL_law_1406 : decode code 1406 = .ok (.iadd, 1) := by decide +kernel
theorem dL_law_1407 : decode code 1407 = .ok (.iaload, 1) := by decide +kernel
theorem dL_law_1408 : decode code 1408 = .ok (.i2l, 1) := by decide +kernel
theorem dL_law_1409 : decode code 1409 = .ok (.bipush 32, 2) := by decide +kernel
theorem dL_law_1411 : decode code 1411 = .ok (.lshl, 1) := by decide +kernel
theorem dL_law_1412 : decode code 1412 = .ok (.aload_n 0, 1) := by decide +kernel
theorem dL_law_1413 : decode code 1413 = .ok (.iload_n 3, 1) := by decide +kernel
theorem dL_law_1414 : decode code 1414 = .ok (.iconst 2, 1) := by decide +kernel
theorem dL_law_1415 : decode code 1415 = .ok (.iadd, 1) := by decide +kernel
theorem dL_law_1416 : decode code 1416 = .ok (.iaload, 1) := by decide +kernel
theorem dL_law_1417 : decode code 1417 = .ok (.i2l, 1) := by decide +kernel
theorem dL_law_1418 : decode code 1418 = .ok (.ldc2_w 74, 3) := by decide +kernel
theorem dL_law_1421 : decode code 1421 = .ok (.land, 1) := by decide +kernel
theorem dL_law_1422 : decode code 1422 = .ok (.lor, 1) := by decide +kernel
theorem dL_law_1423 : decode code 1423 = .ok (.invokevirtual 138, 3) := by decide +kernel
theorem dL_law_1426 : decode code 1426 = .ok (.if_icmp .eq 337, 3) := by decide +kernel
theorem dL_law_1429 : decode code 1429 = .ok (.iconst 0, 1) := by decide +kernel
theorem dL_law_1430 : decode code 1430 = .ok (.ireturn, 1) := by decide +kernel
theorem dL_law_1431 : decode code 1431 = .ok (.aload_n 1, 1) := by decide +kernel
theorem dL_law_1432 : decode code 1432 = .ok (.aload_n 0, 1) := by decide +kernel
theorem dL_law_1433 : decode code 1433 = .ok (.iload_n 3, 1) := by decide +kernel
theorem dL_law_1434 : decode code 1434 = .ok (.iconst 1, 1) := by decide +kernel
theorem dL_law_1435 : decode code 1435 = .ok (.iadd, 1) := by decide +kernel
theorem dL_law_1436 : decode code 1436 = .ok (.iaload, 1) := by decide +kernel
theorem dL_law_1437 : decode code 1437 = .ok (.invokevirtual 139, 3) := by decide +kernel
theorem dL_law_1440 : decode code 1440 = .ok (.aload_n 2, 1) := by decide +kernel
theorem dL_law_1441 : decode code 1441 = .ok (.aload_n 0, 1) := by decide +kernel
theorem dL_law_1442 : decode code 1442 = .ok (.iload_n 3, 1) := by decide +kernel
theorem dL_law_1443 : decode code 1443 = .ok (.iconst 1, 1) := by decide +kernel
theorem dL_law_1444 : decode code 1444 = .ok (.iadd, 1) := by decide +kernel
theorem dL_law_1445 : decode code 1445 = .ok (.iaload, 1) := by decide +kernel
theorem dL_law_1446 : decode code 1446 = .ok (.invokevirtual 142, 3) := by decide +kernel
theorem dL_law_1449 : decode code 1449 = .ok (.if_icmp .eq 314, 3) := by decide +kernel
theorem dL_law_1452 : decode code 1452 = .ok (.iconst 0, 1) := by decide +kernel
theorem dL_law_1453 : decode code 1453 = .ok (.ireturn, 1) := by decide +kernel
theorem dL_law_1454 : decode code 1454 = .ok (.aload_n 1, 1) := by decide +kernel
theorem dL_law_1455 : decode code 1455 = .ok (.aload_n 0, 1) := by decide +kernel
theorem dL_law_1456 : decode code 1456 = .ok (.iload_n 3, 1) := by decide +kernel
theorem dL_law_1457 : decode code 1457 = .ok (.iconst 1, 1) := by decide +kernel
theorem dL_law_1458 : decode code 1458 = .ok (.iadd, 1) := by decide +kernel
theorem dL_law_1459 : decode code 1459 = .ok (.iaload, 1) := by decide +kernel
theorem dL_law_1460 : decode code 1460 = .ok (.invokevirtual 143, 3) := by decide +kernel
theorem dL_law_1463 : decode code 1463 = .ok (.aload_n 2, 1) := by decide +kernel
theorem dL_law_1464 : decode code 1464 = .ok (.aload_n 0, 1) := by decide +kernel
theorem dL_law_1465 : decode code 1465 = .ok (.iload_n 3, 1) := by decide +kernel
theorem dL_law_1466 : decode code 1466 = .ok (.iconst 1, 1) := by decide +kernel
theorem dL_law_1467 : decode code 1467 = .ok (.iadd, 1) := by decide +kernel
theorem dL_law_1468 : decode code 1468 = .ok (.iaload, 1) := by decide +kernel
theorem dL_law_1469 : decode code 1469 = .ok (.invokevirtual 147, 3) := by decide +kernel
theorem dL_law_1472 : decode code 1472 = .ok (.lcmp, 1) := by decide +kernel
theorem dL_law_1473 : decode code 1473 = .ok (.ifCond .eq 290, 3) := by decide +kernel
theorem dL_law_1476 : decode code 1476 = .ok (.iconst 0, 1) := by decide +kernel
theorem dL_law_1477 : decode code 1477 = .ok (.ireturn, 1) := by decide +kernel
theorem dL_law_1478 : decode code 1478 = .ok (.aload_n 1, 1) := by decide +kernel
theorem dL_law_1479 : decode code 1479 = .ok (.aload_n 0, 1) := by decide +kernel
theorem dL_law_1480 : decode code 1480 = .ok (.iload_n 3, 1) := by decide +kernel
theorem dL_law_1481 : decode code 1481 = .ok (.iconst 1, 1) := by decide +kernel
theorem dL_law_1482 : decode code 1482 = .ok (.iadd, 1) := by decide +kernel
theorem dL_law_1483 : decode code 1483 = .ok (.iaload, 1) := by decide +kernel
theorem dL_law_1484 : decode code 1484 = .ok (.invokevirtual 148, 3) := by decide +kernel
theorem dL_law_1487 : decode code 1487 = .ok (.aload_n 2, 1) := by decide +kernel
theorem dL_law_1488 : decode code 1488 = .ok (.aload_n 0, 1) := by decide +kernel
theorem dL_law_1489 : decode code 1489 = .ok (.iload_n 3, 1) := by decide +kernel
theorem dL_law_1490 : decode code 1490 = .ok (.iconst 1, 1) := by decide +kernel
theorem dL_law_1491 : decode code 1491 = .ok (.iadd, 1) := by decide +kernel
theorem dL_law_1492 : decode code 1492 = .ok (.iaload, 1) := by decide +kernel
theorem dL_law_1493 : decode code 1493 = .ok (.invokevirtual 151, 3) := by decide +kernel
theorem dL_law_1496 : decode code 1496 = .ok (.lcmp, 1) := by decide +kernel
theorem dL_law_1497 : decode code 1497 = .ok (.ifCond .eq 266, 3) := by decide +kernel
theorem dL_law_1500 : decode code 1500 = .ok (.iconst 0, 1) := by decide +kernel
theorem dL_law_1501 : decode code 1501 = .ok (.ireturn, 1) := by decide +kernel
theorem dL_law_1502 : decode code 1502 = .ok (.aload_n 1, 1) := by decide +kernel
theorem dL_law_1503 : decode code 1503 = .ok (.aload_n 0, 1) := by decide +kernel
theorem dL_law_1504 : decode code 1504 = .ok (.iload_n 3, 1) := by decide +kernel
theorem dL_law_1505 : decode code 1505 = .ok (.iconst 1, 1) := by decide +kernel
theorem dL_law_1506 : decode code 1506 = .ok (.iadd, 1) := by decide +kernel
theorem dL_law_1507 : decode code 1507 = .ok (.iaload, 1) := by decide +kernel
theorem dL_law_1508 : decode code 1508 = .ok (.aload_n 0, 1) := by decide +kernel
theorem dL_law_1509 : decode code 1509 = .ok (.iload_n 3, 1) := by decide +kernel
theorem dL_law_1510 : decode code 1510 = .ok (.iconst 2, 1) := by decide +kernel
theorem dL_law_1511 : decode code 1511 = .ok (.iadd, 1) := by decide +kernel
theorem dL_law_1512 : decode code 1512 = .ok (.iaload, 1) := by decide +kernel
theorem dL_law_1513 : decode code 1513 = .ok (.aload_n 0, 1) := by decide +kernel
theorem dL_law_1514 : decode code 1514 = .ok (.iload_n 3, 1) := by decide +kernel
theorem dL_law_1515 : decode code 1515 = .ok (.iconst 3, 1) := by decide +kernel
theorem dL_law_1516 : decode code 1516 = .ok (.iadd, 1) := by decide +kernel
theorem dL_law_1517 : decode code 1517 = .ok (.iaload, 1) := by decide +kernel
theorem dL_law_1518 : decode code 1518 = .ok (.invokevirtual 152, 3) := by decide +kernel
theorem dL_law_1521 : decode code 1521 = .ok (.aload_n 2, 1) := by decide +kernel
theorem dL_law_1522 : decode code 1522 = .ok (.aload_n 0, 1) := by decide +kernel
theorem dL_law_1523 : decode code 1523 = .ok (.iload_n 3, 1) := by decide +kernel
theorem dL_law_1524 : decode code 1524 = .ok (.iconst 1, 1) := by decide +kernel
theorem dL_law_1525 : decode code 1525 = .ok (.iadd, 1) := by decide +kernel
theorem dL_law_1526 : decode code 1526 = .ok (.iaload, 1) := by decide +kernel
theorem dL_law_1527 : decode code 1527 = .ok (.aload_n 0, 1) := by decide +kernel
theorem dL_law_1528 : decode code 1528 = .ok (.iload_n 3, 1) := by decide +kernel
theorem dL_law_1529 : decode code 1529 = .ok (.iconst 2, 1) := by decide +kernel
theorem dL_law_1530 : decode code 1530 = .ok (.iadd, 1) := by decide +kernel
theorem dL_law_1531 : decode code 1531 = .ok (.iaload, 1) := by decide +kernel
theorem dL_law_1532 : decode code 1532 = .ok (.aload_n 0, 1) := by decide +kernel
theorem dL_law_1533 : decode code 1533 = .ok (.iload_n 3, 1) := by decide +kernel
theorem dL_law_1534 : decode code 1534 = .ok (.iconst 3, 1) := by decide +kernel
theorem dL_law_1535 : decode code 1535 = .ok (.iadd, 1) := by decide +kernel
theorem dL_law_1536 : decode code 1536 = .ok (.iaload, 1) := by decide +kernel
theorem dL_law_1537 : decode code 1537 = .ok (.invokevirtual 155, 3) := by decide +kernel
theorem dL_law_1540 : decode code 1540 = .ok (.if_icmp .eq 223, 3) := by decide +kernel
theorem dL_law_1543 : decode code 1543 = .ok (.iconst 0, 1) := by decide +kernel
theorem dL_law_1544 : decode code 1544 = .ok (.ireturn, 1) := by decide +kernel
theorem dL_law_1545 : decode code 1545 = .ok (.aload_n 1, 1) := by decide +kernel
theorem dL_law_1546 : decode code 1546 = .ok (.invokevirtual 156, 3) := by decide +kernel
theorem dL_law_1549 : decode code 1549 = .ok (.aload_n 2, 1) := by decide +kernel
theorem dL_law_1550 : decode code 1550 = .ok (.invokevirtual 160, 3) := by decide +kernel
theorem dL_law_1553 : decode code 1553 = .ok (.lcmp, 1) := by decide +kernel
theorem dL_law_1554 : decode code 1554 = .ok (.ifCond .eq 209, 3) := by decide +kernel
theorem dL_law_1557 : decode code 1557 = .ok (.iconst 0, 1) := by decide +kernel
theorem dL_law_1558 : decode code 1558 = .ok (.ireturn, 1) := by decide +kernel
theorem dL_law_1559 : decode code 1559 = .ok (.aload_n 1, 1) := by decide +kernel
theorem dL_law_1560 : decode code 1560 = .ok (.invokevirtual 161, 3) := by decide +kernel
theorem dL_law_1563 : decode code 1563 = .ok (.aload_n 2, 1) := by decide +kernel
theorem dL_law_1564 : decode code 1564 = .ok (.invokevirtual 164, 3) := by decide +kernel
theorem dL_law_1567 : decode code 1567 = .ok (.if_icmp .eq 196, 3) := by decide +kernel
theorem dL_law_1570 : decode code 1570 = .ok (.iconst 0, 1) := by decide +kernel
theorem dL_law_1571 : decode code 1571 = .ok (.ireturn, 1) := by decide +kernel
theorem dL_law_1572 : decode code 1572 = .ok (.aload_n 1, 1) := by decide +kernel
theorem dL_law_1573 : decode code 1573 = .ok (.aload_n 0, 1) := by decide +kernel
theorem dL_law_1574 : decode code 1574 = .ok (.iload_n 3, 1) := by decide +kernel
theorem dL_law_1575 : decode code 1575 = .ok (.iconst 1, 1) := by decide +kernel
theorem dL_law_1576 : decode code 1576 = .ok (.iadd, 1) := by decide +kernel
theorem dL_law_1577 : decode code 1577 = .ok (.iaload, 1) := by decide +kernel
theorem dL_law_1578 : decode code 1578 = .ok (.aload_n 0, 1) := by decide +kernel
theorem dL_law_1579 : decode code 1579 = .ok (.iload_n 3, 1) := by decide +kernel
theorem dL_law_1580 : decode code 1580 = .ok (.iconst 2, 1) := by decide +kernel
theorem dL_law_1581 : decode code 1581 = .ok (.iadd, 1) := by decide +kernel
theorem dL_law_1582 : decode code 1582 = .ok (.iaload, 1) := by decide +kernel
theorem dL_law_1583 : decode code 1583 = .ok (.i2l, 1) := by decide +kernel
theorem dL_law_1584 : decode code 1584 = .ok (.bipush 32, 2) := by decide +kernel
theorem dL_law_1586 : decode code 1586 = .ok (.lshl, 1) := by decide +kernel
theorem dL_law_1587 : decode code 1587 = .ok (.aload_n 0, 1) := by decide +kernel
theorem dL_law_1588 : decode code 1588 = .ok (.iload_n 3, 1) := by decide +kernel
theorem dL_law_1589 : decode code 1589 = .ok (.iconst 3, 1) := by decide +kernel
theorem dL_law_1590 : decode code 1590 = .ok (.iadd, 1) := by decide +kernel
theorem dL_law_1591 : decode code 1591 = .ok (.iaload, 1) := by decide +kernel
theorem dL_law_1592 : decode code 1592 = .ok (.i2l, 1) := by decide +kernel
theorem dL_law_1593 : decode code 1593 = .ok (.ldc2_w 74, 3) := by decide +kernel
theorem dL_law_1596 : decode code 1596 = .ok (.land, 1) := by decide +kernel
theorem dL_law_1597 : decode code 1597 = .ok (.lor, 1) := by decide +kernel
theorem dL_law_1598 : decode code 1598 = .ok (.invokevirtual 165, 3) := by decide +kernel
theorem dL_law_1601 : decode code 1601 = .ok (.aload_n 2, 1) := by decide +kernel
theorem dL_law_1602 : decode code 1602 = .ok (.aload_n 0, 1) := by decide +kernel
theorem dL_law_1603 : decode code 1603 = .ok (.iload_n 3, 1) := by decide +kernel
theorem dL_law_1604 : decode code 1604 = .ok (.iconst 1, 1) := by decide +kernel
theorem dL_law_1605 : decode code 1605 = .ok (.iadd, 1) := by decide +kernel
theorem dL_law_1606 : decode code 1606 = .ok (.iaload, 1) := by decide +kernel
theorem dL_law_1607 : decode code 1607 = .ok (.aload_n 0, 1) := by decide +kernel
theorem dL_law_1608 : decode code 1608 = .ok (.iload_n 3, 1) := by decide +kernel
theorem dL_law_1609 : decode code 1609 = .ok (.iconst 2, 1) := by decide +kernel
theorem dL_law_1610 : decode code 1610 = .ok (.iadd, 1) := by decide +kernel
theorem dL_law_1611 : decode code 1611 = .ok (.iaload, 1) := by decide +kernel
theorem dL_law_1612 : decode code 1612 = .ok (.i2l, 1) := by decide +kernel
theorem dL_law_1613 : decode code 1613 = .ok (.bipush 32, 2) := by decide +kernel
theorem dL_law_1615 : decode code 1615 = .ok (.lshl, 1) := by decide +kernel
theorem dL_law_1616 : decode code 1616 = .ok (.aload_n 0, 1) := by decide +kernel
theorem dL_law_1617 : decode code 1617 = .ok (.iload_n 3, 1) := by decide +kernel
theorem dL_law_1618 : decode code 1618 = .ok (.iconst 3, 1) := by decide +kernel
theorem dL_law_1619 : decode code 1619 = .ok (.iadd, 1) := by decide +kernel
theorem dL_law_1620 : decode code 1620 = .ok (.iaload, 1) := by decide +kernel
theorem dL_law_1621 : decode code 1621 = .ok (.i2l, 1) := by decide +kernel
theorem dL_law_1622 : decode code 1622 = .ok (.ldc2_w 74, 3) := by decide +kernel
theorem dL_law_1625 : decode code 1625 = .ok (.land, 1) := by decide +kernel
theorem dL_law_1626 : decode code 1626 = .ok (.lor, 1) := by decide +kernel
theorem dL_law_1627 : decode code 1627 = .ok (.invokevirtual 168, 3) := by decide +kernel
theorem dL_law_1630 : decode code 1630 = .ok (.if_icmp .eq 133, 3) := by decide +kernel
theorem dL_law_1633 : decode code 1633 = .ok (.iconst 0, 1) := by decide +kernel
theorem dL_law_1634 : decode code 1634 = .ok (.ireturn, 1) := by decide +kernel
theorem dL_law_1635 : decode code 1635 = .ok (.aload_n 1, 1) := by decide +kernel
theorem dL_law_1636 : decode code 1636 = .ok (.invokevirtual 169, 3) := by decide +kernel
theorem dL_law_1639 : decode code 1639 = .ok (.aload_n 2, 1) := by decide +kernel
theorem dL_law_1640 : decode code 1640 = .ok (.invokevirtual 172, 3) := by decide +kernel
theorem dL_law_1643 : decode code 1643 = .ok (.if_icmp .eq 120, 3) := by decide +kernel
theorem dL_law_1646 : decode code 1646 = .ok (.iconst 0, 1) := by decide +kernel
theorem dL_law_1647 : decode code 1647 = .ok (.ireturn, 1) := by decide +kernel
theorem dL_law_1648 : decode code 1648 = .ok (.aload_n 1, 1) := by decide +kernel
theorem dL_law_1649 : decode code 1649 = .ok (.aload_n 0, 1) := by decide +kernel
theorem dL_law_1650 : decode code 1650 = .ok (.iload_n 3, 1) := by decide +kernel
theorem dL_law_1651 : decode code 1651 = .ok (.iconst 1, 1) := by decide +kernel
theorem dL_law_1652 : decode code 1652 = .ok (.iadd, 1) := by decide +kernel
theorem dL_law_1653 : decode code 1653 = .ok (.iaload, 1) := by decide +kernel
theorem dL_law_1654 : decode code 1654 = .ok (.invokevirtual 173, 3) := by decide +kernel
theorem dL_law_1657 : decode code 1657 = .ok (.aload_n 2, 1) := by decide +kernel
theorem dL_law_1658 : decode code 1658 = .ok (.aload_n 0, 1) := by decide +kernel
theorem dL_law_1659 : decode code 1659 = .ok (.iload_n 3, 1) := by decide +kernel
theorem dL_law_1660 : decode code 1660 = .ok (.iconst 1, 1) := by decide +kernel
theorem dL_law_1661 : decode code 1661 = .ok (.iadd, 1) := by decide +kernel
theorem dL_law_1662 : decode code 1662 = .ok (.iaload, 1) := by decide +kernel
theorem dL_law_1663 : decode code 1663 = .ok (.invokevirtual 176, 3) := by decide +kernel
theorem dL_law_1666 : decode code 1666 = .ok (.if_icmp .eq 97, 3) := by decide +kernel
theorem dL_law_1669 : decode code 1669 = .ok (.iconst 0, 1) := by decide +kernel
theorem dL_law_1670 : decode code 1670 = .ok (.ireturn, 1) := by decide +kernel
theorem dL_law_1671 : decode code 1671 = .ok (.aload_n 1, 1) := by decide +kernel
theorem dL_law_1672 : decode code 1672 = .ok (.aload_n 0, 1) := by decide +kernel
theorem dL_law_1673 : decode code 1673 = .ok (.iload_n 3, 1) := by decide +kernel
theorem dL_law_1674 : decode code 1674 = .ok (.iconst 1, 1) := by decide +kernel
theorem dL_law_1675 : decode code 1675 = .ok (.iadd, 1) := by decide +kernel
theorem dL_law_1676 : decode code 1676 = .ok (.iaload, 1) := by decide +kernel
theorem dL_law_1677 : decode code 1677 = .ok (.invokevirtual 177, 3) := by decide +kernel
theorem dL_law_1680 : decode code 1680 = .ok (.aload_n 2, 1) := by decide +kernel
theorem dL_law_1681 : decode code 1681 = .ok (.aload_n 0, 1) := by decide +kernel
theorem dL_law_1682 : decode code 1682 = .ok (.iload_n 3, 1) := by decide +kernel
theorem dL_law_1683 : decode code 1683 = .ok (.iconst 1, 1) := by decide +kernel
theorem dL_law_1684 : decode code 1684 = .ok (.iadd, 1) := by decide +kernel
theorem dL_law_1685 : decode code 1685 = .ok (.iaload, 1) := by decide +kernel
theorem dL_law_1686 : decode code 1686 = .ok (.invokevirtual 180, 3) := by decide +kernel
theorem dL_law_1689 : decode code 1689 = .ok (.if_icmp .eq 74, 3) := by decide +kernel
theorem dL_law_1692 : decode code 1692 = .ok (.iconst 0, 1) := by decide +kernel
theorem dL_law_1693 : decode code 1693 = .ok (.ireturn, 1) := by decide +kernel
theorem dL_law_1694 : decode code 1694 = .ok (.aload_n 1, 1) := by decide +kernel
theorem dL_law_1695 : decode code 1695 = .ok (.aload_n 0, 1) := by decide +kernel
theorem dL_law_1696 : decode code 1696 = .ok (.iload_n 3, 1) := by decide +kernel
theorem dL_law_1697 : decode code 1697 = .ok (.iconst 1, 1) := by decide +kernel
theorem dL_law_1698 : decode code 1698 = .ok (.iadd, 1) := by decide +kernel
theorem dL_law_1699 : decode code 1699 = .ok (.iaload, 1) := by decide +kernel
theorem dL_law_1700 : decode code 1700 = .ok (.aload_n 0, 1) := by decide +kernel
theorem dL_law_1701 : decode code 1701 = .ok (.iload_n 3, 1) := by decide +kernel
theorem dL_law_1702 : decode code 1702 = .ok (.iconst 2, 1) := by decide +kernel
theorem dL_law_1703 : decode code 1703 = .ok (.iadd, 1) := by decide +kernel
theorem dL_law_1704 : decode code 1704 = .ok (.iaload, 1) := by decide +kernel
theorem dL_law_1705 : decode code 1705 = .ok (.invokevirtual 181, 3) := by decide +kernel
theorem dL_law_1708 : decode code 1708 = .ok (.aload_n 2, 1) := by decide +kernel
theorem dL_law_1709 : decode code 1709 = .ok (.aload_n 0, 1) := by decide +kernel
theorem dL_law_1710 : decode code 1710 = .ok (.iload_n 3, 1) := by decide +kernel
theorem dL_law_1711 : decode code 1711 = .ok (.iconst 1, 1) := by decide +kernel
theorem dL_law_1712 : decode code 1712 = .ok (.iadd, 1) := by decide +kernel
theorem dL_law_1713 : decode code 1713 = .ok (.iaload, 1) := by decide +kernel
theorem dL_law_1714 : decode code 1714 = .ok (.aload_n 0, 1) := by decide +kernel
theorem dL_law_1715 : decode code 1715 = .ok (.iload_n 3, 1) := by decide +kernel
theorem dL_law_1716 : decode code 1716 = .ok (.iconst 2, 1) := by decide +kernel
theorem dL_law_1717 : decode code 1717 = .ok (.iadd, 1) := by decide +kernel
theorem dL_law_1718 : decode code 1718 = .ok (.iaload, 1) := by decide +kernel
theorem dL_law_1719 : decode code 1719 = .ok (.invokevirtual 184, 3) := by decide +kernel
theorem dL_law_1722 : decode code 1722 = .ok (.if_icmp .eq 41, 3) := by decide +kernel
theorem dL_law_1725 : decode code 1725 = .ok (.iconst 0, 1) := by decide +kernel
theorem dL_law_1726 : decode code 1726 = .ok (.ireturn, 1) := by decide +kernel
theorem dL_law_1727 : decode code 1727 = .ok (.aload_n 1, 1) := by decide +kernel
theorem dL_law_1728 : decode code 1728 = .ok (.aload_n 0, 1) := by decide +kernel
theorem dL_law_1729 : decode code 1729 = .ok (.iload_n 3, 1) := by decide +kernel
theorem dL_law_1730 : decode code 1730 = .ok (.iconst 1, 1) := by decide +kernel
theorem dL_law_1731 : decode code 1731 = .ok (.iadd, 1) := by decide +kernel
theorem dL_law_1732 : decode code 1732 = .ok (.iaload, 1) := by decide +kernel
theorem dL_law_1733 : decode code 1733 = .ok (.invokevirtual 185, 3) := by decide +kernel
theorem dL_law_1736 : decode code 1736 = .ok (.aload_n 2, 1) := by decide +kernel
theorem dL_law_1737 : decode code 1737 = .ok (.aload_n 0, 1) := by decide +kernel
theorem dL_law_1738 : decode code 1738 = .ok (.iload_n 3, 1) := by decide +kernel
theorem dL_law_1739 : decode code 1739 = .ok (.iconst 1, 1) := by decide +kernel
theorem dL_law_1740 : decode code 1740 = .ok (.iadd, 1) := by decide +kernel
theorem dL_law_1741 : decode code 1741 = .ok (.iaload, 1) := by decide +kernel
theorem dL_law_1742 : decode code 1742 = .ok (.invokevirtual 188, 3) := by decide +kernel
theorem dL_law_1745 : decode code 1745 = .ok (.if_icmp .eq 18, 3) := by decide +kernel
theorem dL_law_1748 : decode code 1748 = .ok (.iconst 0, 1) := by decide +kernel
theorem dL_law_1749 : decode code 1749 = .ok (.ireturn, 1) := by decide +kernel
theorem dL_law_1750 : decode code 1750 = .ok (.aload_n 1, 1) := by decide +kernel
theorem dL_law_1751 : decode code 1751 = .ok (.invokevirtual 189, 3) := by decide +kernel
theorem dL_law_1754 : decode code 1754 = .ok (.aload_n 2, 1) := by decide +kernel
theorem dL_law_1755 : decode code 1755 = .ok (.invokevirtual 192, 3) := by decide +kernel
theorem dL_law_1758 : decode code 1758 = .ok (.if_icmp .eq 5, 3) := by decide +kernel
theorem dL_law_1761 : decode code 1761 = .ok (.iconst 0, 1) := by decide +kernel
theorem dL_law_1762 : decode code 1762 = .ok (.ireturn, 1) := by decide +kernel
theorem dL_law_1763 : decode code 1763 = .ok (.iinc 3 6, 3) := by decide +kernel
theorem dL_law_1766 : decode code 1766 = .ok (.goto (-1748), 3) := by decide +kernel
theorem dL_law_1769 : decode code 1769 = .ok (.iconst 1, 1) := by decide +kernel
theorem dL_law_1770 : decode code 1770 = .ok (.ireturn, 1) := by decide +kernel
