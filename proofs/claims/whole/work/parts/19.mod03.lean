theorem dX11_belongs_0 : decode cX11_belongs 0 = .ok (.iload_n 1, 1) := by decide +kernel
theorem dX11_belongs_1 : decode cX11_belongs 1 = .ok (.tableswitch 159 0 4 #[35, 71, 107, 128, 141], 35) := by decide +kernel
theorem dX11_belongs_36 : decode cX11_belongs 36 = .ok (.aload_n 0, 1) := by decide +kernel
theorem dX11_belongs_37 : decode cX11_belongs 37 = .ok (.bipush 18, 2) := by decide +kernel
theorem dX11_belongs_39 : decode cX11_belongs 39 = .ok (.aload_n 0, 1) := by decide +kernel
theorem dX11_belongs_40 : decode cX11_belongs 40 = .ok (.getfield 93, 3) := by decide +kernel
theorem dX11_belongs_43 : decode cX11_belongs 43 = .ok (.iload_n 2, 1) := by decide +kernel
theorem dX11_belongs_44 : decode cX11_belongs 44 = .ok (.iaload, 1) := by decide +kernel
theorem dX11_belongs_45 : decode cX11_belongs 45 = .ok (.invokevirtual 285, 3) := by decide +kernel
theorem dX11_belongs_48 : decode cX11_belongs 48 = .ok (.ifCond .eq 22, 3) := by decide +kernel
theorem dX11_belongs_51 : decode cX11_belongs 51 = .ok (.aload_n 0, 1) := by decide +kernel
theorem dX11_belongs_52 : decode cX11_belongs 52 = .ok (.bipush 19, 2) := by decide +kernel
theorem dX11_belongs_54 : decode cX11_belongs 54 = .ok (.aload_n 0, 1) := by decide +kernel
theorem dX11_belongs_55 : decode cX11_belongs 55 = .ok (.getfield 96, 3) := by decide +kernel
theorem dX11_belongs_58 : decode cX11_belongs 58 = .ok (.iload_n 2, 1) := by decide +kernel
theorem dX11_belongs_59 : decode cX11_belongs 59 = .ok (.iaload, 1) := by decide +kernel
theorem dX11_belongs_60 : decode cX11_belongs 60 = .ok (.invokevirtual 285, 3) := by decide +kernel
theorem dX11_belongs_63 : decode cX11_belongs 63 = .ok (.ifCond .eq 7, 3) := by decide +kernel
theorem dX11_belongs_66 : decode cX11_belongs 66 = .ok (.iconst 1, 1) := by decide +kernel
theorem dX11_belongs_67 : decode cX11_belongs 67 = .ok (.goto 4, 3) := by decide +kernel
theorem dX11_belongs_70 : decode cX11_belongs 70 = .ok (.iconst 0, 1) := by decide +kernel
theorem dX11_belongs_71 : decode cX11_belongs 71 = .ok (.ireturn, 1) := by decide +kernel
theorem dX11_belongs_72 : decode cX11_belongs 72 = .ok (.aload_n 0, 1) := by decide +kernel
theorem dX11_belongs_73 : decode cX11_belongs 73 = .ok (.bipush 18, 2) := by decide +kernel
theorem dX11_belongs_75 : decode cX11_belongs 75 = .ok (.aload_n 0, 1) := by decide +kernel
theorem dX11_belongs_76 : decode cX11_belongs 76 = .ok (.getfield 93, 3) := by decide +kernel
theorem dX11_belongs_79 : decode cX11_belongs 79 = .ok (.iload_n 2, 1) := by decide +kernel
theorem dX11_belongs_80 : decode cX11_belongs 80 = .ok (.iaload, 1) := by decide +kernel
theorem dX11_belongs_81 : decode cX11_belongs 81 = .ok (.invokevirtual 285, 3) := by decide +kernel
theorem dX11_belongs_84 : decode cX11_belongs 84 = .ok (.ifCond .ne 18, 3) := by decide +kernel
theorem dX11_belongs_87 : decode cX11_belongs 87 = .ok (.aload_n 0, 1) := by decide +kernel
theorem dX11_belongs_88 : decode cX11_belongs 88 = .ok (.bipush 19, 2) := by decide +kernel
theorem dX11_belongs_90 : decode cX11_belongs 90 = .ok (.aload_n 0, 1) := by decide +kernel
theorem dX11_belongs_91 : decode cX11_belongs 91 = .ok (.getfield 96, 3) := by decide +kernel
theorem dX11_belongs_94 : decode cX11_belongs 94 = .ok (.iload_n 2, 1) := by decide +kernel
theorem dX11_belongs_95 : decode cX11_belongs 95 = .ok (.iaload, 1) := by decide +kernel
theorem dX11_belongs_96 : decode cX11_belongs 96 = .ok (.invokevirtual 285, 3) := by decide +kernel
theorem dX11_belongs_99 : decode cX11_belongs 99 = .ok (.ifCond .eq 7, 3) := by decide +kernel
theorem dX11_belongs_102 : decode cX11_belongs 102 = .ok (.iconst 1, 1) := by decide +kernel
theorem dX11_belongs_103 : decode cX11_belongs 103 = .ok (.goto 4, 3) := by decide +kernel
theorem dX11_belongs_106 : decode cX11_belongs 106 = .ok (.iconst 0, 1) := by decide +kernel
theorem dX11_belongs_107 : decode cX11_belongs 107 = .ok (.ireturn, 1) := by decide +kernel
theorem dX11_belongs_108 : decode cX11_belongs 108 = .ok (.aload_n 0, 1) := by decide +kernel
theorem dX11_belongs_109 : decode cX11_belongs 109 = .ok (.bipush 18, 2) := by decide +kernel
theorem dX11_belongs_111 : decode cX11_belongs 111 = .ok (.aload_n 0, 1) := by decide +kernel
theorem dX11_belongs_112 : decode cX11_belongs 112 = .ok (.getfield 93, 3) := by decide +kernel
theorem dX11_belongs_115 : decode cX11_belongs 115 = .ok (.iload_n 2, 1) := by decide +kernel
theorem dX11_belongs_116 : decode cX11_belongs 116 = .ok (.iaload, 1) := by decide +kernel
theorem dX11_belongs_117 : decode cX11_belongs 117 = .ok (.invokevirtual 285, 3) := by decide +kernel
theorem dX11_belongs_120 : decode cX11_belongs 120 = .ok (.ifCond .ne 7, 3) := by decide +kernel
theorem dX11_belongs_123 : decode cX11_belongs 123 = .ok (.iconst 1, 1) := by decide +kernel
theorem dX11_belongs_124 : decode cX11_belongs 124 = .ok (.goto 4, 3) := by decide +kernel
theorem dX11_belongs_127 : decode cX11_belongs 127 = .ok (.iconst 0, 1) := by decide +kernel
theorem dX11_belongs_128 : decode cX11_belongs 128 = .ok (.ireturn, 1) := by decide +kernel
theorem dX11_belongs_129 : decode cX11_belongs 129 = .ok (.aload_n 0, 1) := by decide +kernel
theorem dX11_belongs_130 : decode cX11_belongs 130 = .ok (.bipush 19, 2) := by decide +kernel
theorem dX11_belongs_132 : decode cX11_belongs 132 = .ok (.aload_n 0, 1) := by decide +kernel
theorem dX11_belongs_133 : decode cX11_belongs 133 = .ok (.getfield 96, 3) := by decide +kernel
theorem dX11_belongs_136 : decode cX11_belongs 136 = .ok (.iload_n 2, 1) := by decide +kernel
theorem dX11_belongs_137 : decode cX11_belongs 137 = .ok (.iaload, 1) := by decide +kernel
theorem dX11_belongs_138 : decode cX11_belongs 138 = .ok (.invokevirtual 300, 3) := by decide +kernel
theorem dX11_belongs_141 : decode cX11_belongs 141 = .ok (.ireturn, 1) := by decide +kernel
theorem dX11_belongs_142 : decode cX11_belongs 142 = .ok (.aload_n 0, 1) := by decide +kernel
theorem dX11_belongs_143 : decode cX11_belongs 143 = .ok (.getfield 96, 3) := by decide +kernel
theorem dX11_belongs_146 : decode cX11_belongs 146 = .ok (.iload_n 2, 1) := by decide +kernel
theorem dX11_belongs_147 : decode cX11_belongs 147 = .ok (.iaload, 1) := by decide +kernel
theorem dX11_belongs_148 : decode cX11_belongs 148 = .ok (.iconst 1, 1) := by decide +kernel
theorem dX11_belongs_149 : decode cX11_belongs 149 = .ok (.iand, 1) := by decide +kernel
theorem dX11_belongs_150 : decode cX11_belongs 150 = .ok (.iconst 1, 1) := by decide +kernel
theorem dX11_belongs_151 : decode cX11_belongs 151 = .ok (.if_icmp .ne 7, 3) := by decide +kernel
theorem dX11_belongs_154 : decode cX11_belongs 154 = .ok (.iconst 1, 1) := by decide +kernel
theorem dX11_belongs_155 : decode cX11_belongs 155 = .ok (.goto 4, 3) := by decide +kernel
theorem dX11_belongs_158 : decode cX11_belongs 158 = .ok (.iconst 0, 1) := by decide +kernel
theorem dX11_belongs_159 : decode cX11_belongs 159 = .ok (.ireturn, 1) := by decide +kernel
theorem dX11_belongs_160 : decode cX11_belongs 160 = .ok (.aload_n 0, 1) := by decide +kernel
theorem dX11_belongs_161 : decode cX11_belongs 161 = .ok (.getfield 93, 3) := by decide +kernel
theorem dX11_belongs_164 : decode cX11_belongs 164 = .ok (.iload_n 2, 1) := by decide +kernel
theorem dX11_belongs_165 : decode cX11_belongs 165 = .ok (.iaload, 1) := by decide +kernel
theorem dX11_belongs_166 : decode cX11_belongs 166 = .ok (.iconst 1, 1) := by decide +kernel
theorem dX11_belongs_167 : decode cX11_belongs 167 = .ok (.if_icmp .eq 18, 3) := by decide +kernel
theorem dX11_belongs_170 : decode cX11_belongs 170 = .ok (.aload_n 0, 1) := by decide +kernel
theorem dX11_belongs_171 : decode cX11_belongs 171 = .ok (.bipush 18, 2) := by decide +kernel
theorem dX11_belongs_173 : decode cX11_belongs 173 = .ok (.aload_n 0, 1) := by decide +kernel
theorem dX11_belongs_174 : decode cX11_belongs 174 = .ok (.getfield 96, 3) := by decide +kernel
theorem dX11_belongs_177 : decode cX11_belongs 177 = .ok (.iload_n 2, 1) := by decide +kernel
theorem dX11_belongs_178 : decode cX11_belongs 178 = .ok (.iaload, 1) := by decide +kernel
theorem dX11_belongs_179 : decode cX11_belongs 179 = .ok (.invokevirtual 300, 3) := by decide +kernel
theorem dX11_belongs_182 : decode cX11_belongs 182 = .ok (.ifCond .eq 7, 3) := by decide +kernel
theorem dX11_belongs_185 : decode cX11_belongs 185 = .ok (.iconst 1, 1) := by decide +kernel
theorem dX11_belongs_186 : decode cX11_belongs 186 = .ok (.goto 4, 3) := by decide +kernel
theorem dX11_belongs_189 : decode cX11_belongs 189 = .ok (.iconst 0, 1) := by decide +kernel
theorem dX11_belongs_190 : decode cX11_belongs 190 = .ok (.ireturn, 1) := by decide +kernel
def f_Model_belongs_b185  (Q : Int32 → MI → MJ → Prop) (I : MI) (J : MJ) : Prop :=
  Q 1 I J
def f_Model_belongs_b102  (Q : Int32 → MI → MJ → Prop) (I : MI) (J : MJ) : Prop :=
  Q 1 I J
def f_Model_belongs (x1 : Int32) (x2 : Int32) (I : MI) (J : MJ) (Q : Int32 → MI → MJ → Prop) : Prop :=
  (if x1 = 0 then vp_in x2 512 ∧ f_Model_isYesBy (18 : Int32) (I 205 x2.toNatClampNeg) I J (fun r45 I45 J45 => (if r45 = 0 then Q 0 I45 J45 else vp_in x2 512 ∧ f_Model_isYesBy (19 : Int32) (I45 206 x2.toNatClampNeg) I45 J45 (fun r60 I60 J60 => (if r60 = 0 then Q 0 I60 J60 else Q 1 I60 J60)))) else (if x1 = 1 then vp_in x2 512 ∧ f_Model_isYesBy (18 : Int32) (I 205 x2.toNatClampNeg) I J (fun r81 I81 J81 => (if r81 = 0 then vp_in x2 512 ∧ f_Model_isYesBy (19 : Int32) (I81 206 x2.toNatClampNeg) I81 J81 (fun r96 I96 J96 => (if r96 = 0 then Q 0 I96 J96 else f_Model_belongs_b102 Q I96 J96)) else f_Model_belongs_b102 Q I81 J81)) else (if x1 = 2 then vp_in x2 512 ∧ f_Model_isYesBy (18 : Int32) (I 205 x2.toNatClampNeg) I J (fun r117 I117 J117 => (if r117 = 0 then Q 1 I117 J117 else Q 0 I117 J117)) else (if x1 = 3 then vp_in x2 512 ∧ f_Model_anyYes (19 : Int32) (I 206 x2.toNatClampNeg) I J (fun r138 I138 J138 => (r138 = 0 ∨ r138 = 1) ∧ Q r138 I138 J138) else (if x1 = 4 then vp_in x2 512 ∧ (if ((I 206 x2.toNatClampNeg) &&& 1) = 1 then Q 1 I J else Q 0 I J) else vp_in x2 512 ∧ (if (I 205 x2.toNatClampNeg) = 1 then f_Model_belongs_b185 Q I J else vp_in x2 512 ∧ f_Model_anyYes (18 : Int32) (I 206 x2.toNatClampNeg) I J (fun r179 I179 J179 => (if r179 = 0 then Q 0 I179 J179 else f_Model_belongs_b185 Q I179 J179))))))))
set_option maxRecDepth 100000 in
set_option maxHeartbeats 4000000 in
theorem w_Model_belongs_b185 {Γ : Ctx} {Q : Int32 → MI → MJ → Prop}   (X : Cx Γ cX11_belongs 3 RX11 2) (Y : Rt Γ (Pi Q) (Option.some Jvm.ClassFile.FieldType.boolean))   {I : MI} {J : MJ} (h : f_Model_belongs_b185 Q I J) : Wp Γ 3 185 [] [] I J := by
  unfold f_Model_belongs_b185 at h
  refine wp_iconst X dX11_belongs_185 ic_1 ?_
  refine wp_goto (tgt := 190) X dX11_belongs_186 (by decide) ?_
  exact wp_zret X Y dX11_belongs_190 (by decide) ⟨_, rfl, h⟩

set_option maxRecDepth 100000 in
set_option maxHeartbeats 4000000 in
theorem w_Model_belongs_b102 {Γ : Ctx} {Q : Int32 → MI → MJ → Prop}   (X : Cx Γ cX11_belongs 3 RX11 2) (Y : Rt Γ (Pi Q) (Option.some Jvm.ClassFile.FieldType.boolean))   {I : MI} {J : MJ} (h : f_Model_belongs_b102 Q I J) : Wp Γ 3 102 [] [] I J := by
  unfold f_Model_belongs_b102 at h
  refine wp_iconst X dX11_belongs_102 ic_1 ?_
  refine wp_goto (tgt := 107) X dX11_belongs_103 (by decide) ?_
  exact wp_zret X Y dX11_belongs_107 (by decide) ⟨_, rfl, h⟩

set_option maxRecDepth 100000 in
set_option maxHeartbeats 4000000 in
theorem w_Model_belongs_b0 {Γ : Ctx} {Q : Int32 → MI → MJ → Prop} {x1 : Int32} {x2 : Int32}  (X : Cx Γ cX11_belongs 3 RX11 2) (Y : Rt Γ (Pi Q) (Option.some Jvm.ClassFile.FieldType.boolean))   {I : MI} {J : MJ} (h : f_Model_belongs x1 x2 I J Q) : Wp Γ 3 0 [(0, .ref (ad Γ 177)), (1, .int x1), (2, .int x2)] [] I J := by
  unfold f_Model_belongs at h
  refine wp_iload_n X dX11_belongs_0 1 rfl ?_
  by_cases hs0 : x1 = 0
  · have h := ite_t h hs0
    refine wp_tab (tgt := 36) (y := 0) X dX11_belongs_1 hs0 (by decide) (by decide) rfl (by decide) ?_
    refine wp_aload_n X dX11_belongs_36 0 rfl ?_
    refine wp_bipush X dX11_belongs_37 bi_18 ?_
    refine wp_aload_n X dX11_belongs_39 0 rfl ?_
    refine gf_X11_93 (o' := 205) X sh_177 rfl dX11_belongs_40 ?_
    refine wp_iload_n X dX11_belongs_43 2 rfl ?_
    obtain ⟨hb44, h⟩ := h
    refine wp_iald X sh_205 hb44 dX11_belongs_44 ?_
    refine cv_Model_isYesBy X dX11_belongs_45 ml_X11_285  h (Nat.le_of_ble_eq_true rfl) (by decide) (fun r45 I45 J45 h => ?_)
    refine wp_if_eq (tgt := 70) X dX11_belongs_48 (by decide) (fun hc => ?_) (fun hc => ?_)
    · have h := ite_t h hc
      refine wp_iconst X dX11_belongs_70 ic_0 ?_
      exact wp_zret X Y dX11_belongs_71 (by decide) ⟨_, rfl, h⟩
    · have h := ite_f h hc
      refine wp_aload_n X dX11_belongs_51 0 rfl ?_
      refine wp_bipush X dX11_belongs_52 bi_19 ?_
      refine wp_aload_n X dX11_belongs_54 0 rfl ?_
      refine gf_X11_96 (o' := 206) X sh_177 rfl dX11_belongs_55 ?_
      refine wp_iload_n X dX11_belongs_58 2 rfl ?_
      obtain ⟨hb59, h⟩ := h
      refine wp_iald X sh_206 hb59 dX11_belongs_59 ?_
      refine cv_Model_isYesBy X dX11_belongs_60 ml_X11_285  h (Nat.le_of_ble_eq_true rfl) (by decide) (fun r60 I60 J60 h => ?_)
      refine wp_if_eq (tgt := 70) X dX11_belongs_63 (by decide) (fun hc => ?_) (fun hc => ?_)
      · have h := ite_t h hc
        refine wp_iconst X dX11_belongs_70 ic_0 ?_
        exact wp_zret X Y dX11_belongs_71 (by decide) ⟨_, rfl, h⟩
      · have h := ite_f h hc
        refine wp_iconst X dX11_belongs_66 ic_1 ?_
        refine wp_goto (tgt := 71) X dX11_belongs_67 (by decide) ?_
        exact wp_zret X Y dX11_belongs_71 (by decide) ⟨_, rfl, h⟩
  have h := ite_f h hs0
  by_cases hs1 : x1 = 1
  · have h := ite_t h hs1
    refine wp_tab (tgt := 72) (y := 1) X dX11_belongs_1 hs1 (by decide) (by decide) rfl (by decide) ?_
    refine wp_aload_n X dX11_belongs_72 0 rfl ?_
    refine wp_bipush X dX11_belongs_73 bi_18 ?_
    refine wp_aload_n X dX11_belongs_75 0 rfl ?_
    refine gf_X11_93 (o' := 205) X sh_177 rfl dX11_belongs_76 ?_
    refine wp_iload_n X dX11_belongs_79 2 rfl ?_
    obtain ⟨hb80, h⟩ := h
    refine wp_iald X sh_205 hb80 dX11_belongs_80 ?_
    refine cv_Model_isYesBy X dX11_belongs_81 ml_X11_285  h (Nat.le_of_ble_eq_true rfl) (by decide) (fun r81 I81 J81 h => ?_)
    refine wp_if_ne (tgt := 102) X dX11_belongs_84 (by decide) (fun hc => ?_) (fun hc => ?_)
    · have h := ite_f h hc
      refine wp_sub X [] rfl ?_
      exact w_Model_belongs_b102 X Y  h
    · have h := ite_t h hc
      refine wp_aload_n X dX11_belongs_87 0 rfl ?_
      refine wp_bipush X dX11_belongs_88 bi_19 ?_
      refine wp_aload_n X dX11_belongs_90 0 rfl ?_
      refine gf_X11_96 (o' := 206) X sh_177 rfl dX11_belongs_91 ?_
      refine wp_iload_n X dX11_belongs_94 2 rfl ?_
      obtain ⟨hb95, h⟩ := h
      refine wp_iald X sh_206 hb95 dX11_belongs_95 ?_
      refine cv_Model_isYesBy X dX11_belongs_96 ml_X11_285  h (Nat.le_of_ble_eq_true rfl) (by decide) (fun r96 I96 J96 h => ?_)
      refine wp_if_eq (tgt := 106) X dX11_belongs_99 (by decide) (fun hc => ?_) (fun hc => ?_)
      · have h := ite_t h hc
        refine wp_iconst X dX11_belongs_106 ic_0 ?_
        exact wp_zret X Y dX11_belongs_107 (by decide) ⟨_, rfl, h⟩
      · have h := ite_f h hc
        refine wp_sub X [] rfl ?_
        exact w_Model_belongs_b102 X Y  h
  have h := ite_f h hs1
  by_cases hs2 : x1 = 2
  · have h := ite_t h hs2
    refine wp_tab (tgt := 108) (y := 2) X dX11_belongs_1 hs2 (by decide) (by decide) rfl (by decide) ?_
    refine wp_aload_n X dX11_belongs_108 0 rfl ?_
    refine wp_bipush X dX11_belongs_109 bi_18 ?_
    refine wp_aload_n X dX11_belongs_111 0 rfl ?_
    refine gf_X11_93 (o' := 205) X sh_177 rfl dX11_belongs_112 ?_
    refine wp_iload_n X dX11_belongs_115 2 rfl ?_
    obtain ⟨hb116, h⟩ := h
    refine wp_iald X sh_205 hb116 dX11_belongs_116 ?_
    refine cv_Model_isYesBy X dX11_belongs_117 ml_X11_285  h (Nat.le_of_ble_eq_true rfl) (by decide) (fun r117 I117 J117 h => ?_)
    refine wp_if_ne (tgt := 127) X dX11_belongs_120 (by decide) (fun hc => ?_) (fun hc => ?_)
    · have h := ite_f h hc
      refine wp_iconst X dX11_belongs_127 ic_0 ?_
      exact wp_zret X Y dX11_belongs_128 (by decide) ⟨_, rfl, h⟩
    · have h := ite_t h hc
      refine wp_iconst X dX11_belongs_123 ic_1 ?_
      refine wp_goto (tgt := 128) X dX11_belongs_124 (by decide) ?_
      exact wp_zret X Y dX11_belongs_128 (by decide) ⟨_, rfl, h⟩
  have h := ite_f h hs2
  by_cases hs3 : x1 = 3
  · have h := ite_t h hs3
    refine wp_tab (tgt := 129) (y := 3) X dX11_belongs_1 hs3 (by decide) (by decide) rfl (by decide) ?_
    refine wp_aload_n X dX11_belongs_129 0 rfl ?_
    refine wp_bipush X dX11_belongs_130 bi_19 ?_
    refine wp_aload_n X dX11_belongs_132 0 rfl ?_
    refine gf_X11_96 (o' := 206) X sh_177 rfl dX11_belongs_133 ?_
    refine wp_iload_n X dX11_belongs_136 2 rfl ?_
    obtain ⟨hb137, h⟩ := h
    refine wp_iald X sh_206 hb137 dX11_belongs_137 ?_
    refine cv_Model_anyYes X dX11_belongs_138 ml_X11_300  h (Nat.le_of_ble_eq_true rfl) (by decide) (fun r138 I138 J138 h => ?_)
    exact wp_zret X Y dX11_belongs_141 h.1 ⟨_, rfl, h.2⟩
  have h := ite_f h hs3
  by_cases hs4 : x1 = 4
  · have h := ite_t h hs4
    refine wp_tab (tgt := 142) (y := 4) X dX11_belongs_1 hs4 (by decide) (by decide) rfl (by decide) ?_
    refine wp_aload_n X dX11_belongs_142 0 rfl ?_
    refine gf_X11_96 (o' := 206) X sh_177 rfl dX11_belongs_143 ?_
    refine wp_iload_n X dX11_belongs_146 2 rfl ?_
    obtain ⟨hb147, h⟩ := h
    refine wp_iald X sh_206 hb147 dX11_belongs_147 ?_
    refine wp_iconst X dX11_belongs_148 ic_1 ?_
    refine wp_iand X dX11_belongs_149 ?_
    refine wp_iconst X dX11_belongs_150 ic_1 ?_
    refine wp_icmp_ne (tgt := 158) X dX11_belongs_151 (by decide) (fun hc => ?_) (fun hc => ?_)
    · have h := ite_f h hc
      refine wp_iconst X dX11_belongs_158 ic_0 ?_
      exact wp_zret X Y dX11_belongs_159 (by decide) ⟨_, rfl, h⟩
    · have h := ite_t h hc
      refine wp_iconst X dX11_belongs_154 ic_1 ?_
      refine wp_goto (tgt := 159) X dX11_belongs_155 (by decide) ?_
      exact wp_zret X Y dX11_belongs_159 (by decide) ⟨_, rfl, h⟩
  have h := ite_f h hs4
  have nt0 := lv_neT hs0 (a := 0) (by decide)
  have nt1 := lv_neT hs1 (a := 1) (by decide)
  have nt2 := lv_neT hs2 (a := 2) (by decide)
  have nt3 := lv_neT hs3 (a := 3) (by decide)
  have nt4 := lv_neT hs4 (a := 4) (by decide)
  refine wp_tableOut (tgt := 160) X dX11_belongs_1 (by omega) (by decide) ?_
  refine wp_aload_n X dX11_belongs_160 0 rfl ?_
  refine gf_X11_93 (o' := 205) X sh_177 rfl dX11_belongs_161 ?_
  refine wp_iload_n X dX11_belongs_164 2 rfl ?_
  obtain ⟨hb165, h⟩ := h
  refine wp_iald X sh_205 hb165 dX11_belongs_165 ?_
  refine wp_iconst X dX11_belongs_166 ic_1 ?_
  refine wp_icmp_eq (tgt := 185) X dX11_belongs_167 (by decide) (fun hc => ?_) (fun hc => ?_)
  · have h := ite_t h hc
    refine wp_sub X [] rfl ?_
    exact w_Model_belongs_b185 X Y  h
  · have h := ite_f h hc
    refine wp_aload_n X dX11_belongs_170 0 rfl ?_
    refine wp_bipush X dX11_belongs_171 bi_18 ?_
    refine wp_aload_n X dX11_belongs_173 0 rfl ?_
    refine gf_X11_96 (o' := 206) X sh_177 rfl dX11_belongs_174 ?_
    refine wp_iload_n X dX11_belongs_177 2 rfl ?_
    obtain ⟨hb178, h⟩ := h
    refine wp_iald X sh_206 hb178 dX11_belongs_178 ?_
    refine cv_Model_anyYes X dX11_belongs_179 ml_X11_300  h (Nat.le_of_ble_eq_true rfl) (by decide) (fun r179 I179 J179 h => ?_)
    refine wp_if_eq (tgt := 189) X dX11_belongs_182 (by decide) (fun hc => ?_) (fun hc => ?_)
    · have h := ite_t h hc
      refine wp_iconst X dX11_belongs_189 ic_0 ?_
      exact wp_zret X Y dX11_belongs_190 (by decide) ⟨_, rfl, h⟩
    · have h := ite_f h hc
      refine wp_sub X [] rfl ?_
      exact w_Model_belongs_b185 X Y  h

theorem c_Model_belongs {l : Launch} {g : GE} (hg : Inj g) {I : MI} {J : MJ} {Q : Int32 → MI → MJ → Prop} {x1 : Int32} {x2 : Int32}  (h : f_Model_belongs x1 x2 I J Q) : Cm l g yX11_belongs cX11_belongs 3 (Option.some Jvm.ClassFile.FieldType.boolean) 2 [.ref (g.1 177), .int x1, .int x2] I J (Pi Q) := by
  refine Cm.of (As := fun ad => [.ref (ad 177), .int x1, .int x2]) hg pn_X11 (Nat.le_of_ble_eq_true rfl) ?_
  exact (fun Γ _ _ X Y => w_Model_belongs_b0 X Y  h)
theorem cv_Model_belongs {Γ : Ctx} {cc : ByteArray} {nL d pc index : Nat} {own : String} {L : List (Nat × Value)} {rest : List Value} {I : MI} {J : MJ} {Q : Int32 → MI → MJ → Prop} {x1 : Int32} {x2 : Int32} (X : Cx Γ cc nL own d) (hd : decode cc pc = .ok (.invokevirtual index, 3)) (hlink : Cond.methodLink own index yX11_belongs ∈ TT)  (h : f_Model_belongs x1 x2 I J Q) (hrest : (rest.map fun v => v.category).sum ≤ 8) (hdd : 2 + 1 ≤ d) (kk : ∀ (r : Int32) (I' : MI) (J' : MJ), Q r I' J' → Wp Γ nL (pc + 3) L (.int r :: rest) I' J') : Wp Γ nL pc L (.int x2 :: .int x1 :: .ref (ad Γ 177) :: rest) I J :=
  wp_callV (As := [.int x1, .int x2]) (rest := rest) (T := TX11) (N := 62) X hd hlink mv_X11_belongs sh_177 (by decide) rfl (c_Model_belongs X.inj  h) rfl rfl hrest hdd (fun v I' J' hv => by obtain ⟨r, rfl, hq⟩ := hv; exact kk r I' J' hq)
theorem dX11_numberOfSet_0 : decode cX11_numberOfSet 0 = .ok (.iconst (-1), 1) := by decide +kernel
theorem dX11_numberOfSet_1 : decode cX11_numberOfSet 1 = .ok (.istore_n 1, 1) := by decide +kernel
theorem dX11_numberOfSet_2 : decode cX11_numberOfSet 2 = .ok (.iconst 0, 1) := by decide +kernel
theorem dX11_numberOfSet_3 : decode cX11_numberOfSet 3 = .ok (.istore_n 2, 1) := by decide +kernel
theorem dX11_numberOfSet_4 : decode cX11_numberOfSet 4 = .ok (.iload_n 2, 1) := by decide +kernel
theorem dX11_numberOfSet_5 : decode cX11_numberOfSet 5 = .ok (.aload_n 0, 1) := by decide +kernel
theorem dX11_numberOfSet_6 : decode cX11_numberOfSet 6 = .ok (.getfield 303, 3) := by decide +kernel
theorem dX11_numberOfSet_9 : decode cX11_numberOfSet 9 = .ok (.if_icmp .ge 41, 3) := by decide +kernel
theorem dX11_numberOfSet_12 : decode cX11_numberOfSet 12 = .ok (.aload_n 0, 1) := by decide +kernel
theorem dX11_numberOfSet_13 : decode cX11_numberOfSet 13 = .ok (.getfield 93, 3) := by decide +kernel
theorem dX11_numberOfSet_16 : decode cX11_numberOfSet 16 = .ok (.iload_n 2, 1) := by decide +kernel
theorem dX11_numberOfSet_17 : decode cX11_numberOfSet 17 = .ok (.iaload, 1) := by decide +kernel
theorem dX11_numberOfSet_18 : decode cX11_numberOfSet 18 = .ok (.aload_n 0, 1) := by decide +kernel
theorem dX11_numberOfSet_19 : decode cX11_numberOfSet 19 = .ok (.getfield 288, 3) := by decide +kernel
theorem dX11_numberOfSet_22 : decode cX11_numberOfSet 22 = .ok (.if_icmp .ne 20, 3) := by decide +kernel
theorem dX11_numberOfSet_25 : decode cX11_numberOfSet 25 = .ok (.aload_n 0, 1) := by decide +kernel
theorem dX11_numberOfSet_26 : decode cX11_numberOfSet 26 = .ok (.getfield 96, 3) := by decide +kernel
theorem dX11_numberOfSet_29 : decode cX11_numberOfSet 29 = .ok (.iload_n 2, 1) := by decide +kernel
theorem dX11_numberOfSet_30 : decode cX11_numberOfSet 30 = .ok (.iaload, 1) := by decide +kernel
theorem dX11_numberOfSet_31 : decode cX11_numberOfSet 31 = .ok (.aload_n 0, 1) := by decide +kernel
theorem dX11_numberOfSet_32 : decode cX11_numberOfSet 32 = .ok (.getfield 291, 3) := by decide +kernel
theorem dX11_numberOfSet_35 : decode cX11_numberOfSet 35 = .ok (.if_icmp .ne 7, 3) := by decide +kernel
theorem dX11_numberOfSet_38 : decode cX11_numberOfSet 38 = .ok (.iload_n 2, 1) := by decide +kernel
theorem dX11_numberOfSet_39 : decode cX11_numberOfSet 39 = .ok (.goto 4, 3) := by decide +kernel
theorem dX11_numberOfSet_42 : decode cX11_numberOfSet 42 = .ok (.iload_n 1, 1) := by decide +kernel
theorem dX11_numberOfSet_43 : decode cX11_numberOfSet 43 = .ok (.istore_n 1, 1) := by decide +kernel
theorem dX11_numberOfSet_44 : decode cX11_numberOfSet 44 = .ok (.iinc 2 1, 3) := by decide +kernel
theorem dX11_numberOfSet_47 : decode cX11_numberOfSet 47 = .ok (.goto (-43), 3) := by decide +kernel
theorem dX11_numberOfSet_50 : decode cX11_numberOfSet 50 = .ok (.iload_n 1, 1) := by decide +kernel
theorem dX11_numberOfSet_51 : decode cX11_numberOfSet 51 = .ok (.ifCond .ge 38, 3) := by decide +kernel
theorem dX11_numberOfSet_54 : decode cX11_numberOfSet 54 = .ok (.aload_n 0, 1) := by decide +kernel
theorem dX11_numberOfSet_55 : decode cX11_numberOfSet 55 = .ok (.getfield 303, 3) := by decide +kernel
theorem dX11_numberOfSet_58 : decode cX11_numberOfSet 58 = .ok (.istore_n 1, 1) := by decide +kernel
theorem dX11_numberOfSet_59 : decode cX11_numberOfSet 59 = .ok (.aload_n 0, 1) := by decide +kernel
theorem dX11_numberOfSet_60 : decode cX11_numberOfSet 60 = .ok (.getfield 93, 3) := by decide +kernel
theorem dX11_numberOfSet_63 : decode cX11_numberOfSet 63 = .ok (.iload_n 1, 1) := by decide +kernel
theorem dX11_numberOfSet_64 : decode cX11_numberOfSet 64 = .ok (.aload_n 0, 1) := by decide +kernel
theorem dX11_numberOfSet_65 : decode cX11_numberOfSet 65 = .ok (.getfield 288, 3) := by decide +kernel
theorem dX11_numberOfSet_68 : decode cX11_numberOfSet 68 = .ok (.iastore, 1) := by decide +kernel
theorem dX11_numberOfSet_69 : decode cX11_numberOfSet 69 = .ok (.aload_n 0, 1) := by decide +kernel
theorem dX11_numberOfSet_70 : decode cX11_numberOfSet 70 = .ok (.getfield 96, 3) := by decide +kernel
theorem dX11_numberOfSet_73 : decode cX11_numberOfSet 73 = .ok (.iload_n 1, 1) := by decide +kernel
theorem dX11_numberOfSet_74 : decode cX11_numberOfSet 74 = .ok (.aload_n 0, 1) := by decide +kernel
theorem dX11_numberOfSet_75 : decode cX11_numberOfSet 75 = .ok (.getfield 291, 3) := by decide +kernel
theorem dX11_numberOfSet_78 : decode cX11_numberOfSet 78 = .ok (.iastore, 1) := by decide +kernel
theorem dX11_numberOfSet_79 : decode cX11_numberOfSet 79 = .ok (.aload_n 0, 1) := by decide +kernel
theorem dX11_numberOfSet_80 : decode cX11_numberOfSet 80 = .ok (.dup, 1) := by decide +kernel
theorem dX11_numberOfSet_81 : decode cX11_numberOfSet 81 = .ok (.getfield 303, 3) := by decide +kernel
theorem dX11_numberOfSet_84 : decode cX11_numberOfSet 84 = .ok (.iconst 1, 1) := by decide +kernel
theorem dX11_numberOfSet_85 : decode cX11_numberOfSet 85 = .ok (.iadd, 1) := by decide +kernel
theorem dX11_numberOfSet_86 : decode cX11_numberOfSet 86 = .ok (.putfield 303, 3) := by decide +kernel
theorem dX11_numberOfSet_89 : decode cX11_numberOfSet 89 = .ok (.iload_n 1, 1) := by decide +kernel
theorem dX11_numberOfSet_90 : decode cX11_numberOfSet 90 = .ok (.ireturn, 1) := by decide +kernel
def f_Model_numberOfSet_b43 (x2 : Int32) (s0 : Int32) (kh : Int32 → Int32 → MI → MJ → Prop) (I : MI) (J : MJ) : Prop :=
  ∀ t44 : Int32, t44 = x2 + 1 → kh s0 t44 I J
def f_Model_numberOfSet_b42 (x1 : Int32) (x2 : Int32) (kh : Int32 → Int32 → MI → MJ → Prop) (I : MI) (J : MJ) : Prop :=
  f_Model_numberOfSet_b43 x2 x1 kh I J
def f_Model_numberOfSet_L4 (k50 : Int32 → MI → MJ → Prop) : Nat → Int32 → Int32 → MI → MJ → Prop
  | 0, _, _, _, _ => False
  | nf4 + 1, x1, x2, I, J =>
  (if (I 177 32) ≤ x2 then k50 x1 I J else vp_in x2 512 ∧ (if (I 205 x2.toNatClampNeg) = (I 177 39) then vp_in x2 512 ∧ (if (I 206 x2.toNatClampNeg) = (I 177 40) then f_Model_numberOfSet_b43 x2 x2 (f_Model_numberOfSet_L4 k50 nf4) I J else f_Model_numberOfSet_b42 x1 x2 (f_Model_numberOfSet_L4 k50 nf4) I J) else f_Model_numberOfSet_b42 x1 x2 (f_Model_numberOfSet_L4 k50 nf4) I J))
def f_Model_numberOfSet (I : MI) (J : MJ) (Q : Int32 → MI → MJ → Prop) : Prop :=
  ∃ n, f_Model_numberOfSet_L4 (fun (z50_x1 : Int32) (I : MI) (J : MJ) => (if 0 ≤ z50_x1 then Q z50_x1 I J else ∀ t58 : Int32, t58 = I 177 32 → vp_in t58 512 ∧ ∀ I68 : MI, I68 = sI I 205 (upd (I 205) t58.toNatClampNeg (I 177 39)) → vp_in t58 512 ∧ ∀ I78 : MI, I78 = sI I68 206 (upd (I68 206) t58.toNatClampNeg (I68 177 40)) → ∀ I86 : MI, I86 = sI I78 177 (upd (I78 177) 32 ((I78 177 32) + 1)) → Q t58 I86 J)) n (-1) 0 I J
set_option maxRecDepth 100000 in
set_option maxHeartbeats 4000000 in
theorem w_Model_numberOfSet_b43 {Γ : Ctx} {Q : Int32 → MI → MJ → Prop} {x2 : Int32} {s0 : Int32} {kh : Int32 → Int32 → MI → MJ → Prop} (X : Cx Γ cX11_numberOfSet 3 RX11 0) (Y : Rt Γ (Pi Q) (Option.some Jvm.ClassFile.FieldType.int))  (hkh : ∀ (x1 : Int32) (x2 : Int32) (I : MI) (J : MJ), kh x1 x2 I J → Wp Γ 3 4 [(0, .ref (ad Γ 177)), (1, .int x1), (2, .int x2)] [] I J) {I : MI} {J : MJ} (h : f_Model_numberOfSet_b43 x2 s0 kh I J) : Wp Γ 3 43 [(0, .ref (ad Γ 177)), (2, .int x2)] [.int s0] I J := by
  unfold f_Model_numberOfSet_b43 at h
  refine wp_istore_n (L' := [(1, .int s0), (0, .ref (ad Γ 177)), (2, .int x2)]) X dX11_numberOfSet_43 rfl (by decide) rfl ?_
  obtain ⟨t44, et44⟩ : ∃ y : Int32, y = x2 + 1 := ⟨_, rfl⟩
  have h := h t44 et44
  refine wp_iinc (L' := [(2, .int t44), (1, .int s0), (0, .ref (ad Γ 177))]) X dX11_numberOfSet_44 2 rfl (ii_1 et44) (by decide) rfl ?_
  refine wp_goto (tgt := 4) X dX11_numberOfSet_47 (by decide) ?_
  refine wp_sub X [2, 1, 0] rfl ?_
  exact hkh _ _ _ _ h

set_option maxRecDepth 100000 in
set_option maxHeartbeats 4000000 in
theorem w_Model_numberOfSet_b42 {Γ : Ctx} {Q : Int32 → MI → MJ → Prop} {x1 : Int32} {x2 : Int32} {kh : Int32 → Int32 → MI → MJ → Prop} (X : Cx Γ cX11_numberOfSet 3 RX11 0) (Y : Rt Γ (Pi Q) (Option.some Jvm.ClassFile.FieldType.int))  (hkh : ∀ (x1 : Int32) (x2 : Int32) (I : MI) (J : MJ), kh x1 x2 I J → Wp Γ 3 4 [(0, .ref (ad Γ 177)), (1, .int x1), (2, .int x2)] [] I J) {I : MI} {J : MJ} (h : f_Model_numberOfSet_b42 x1 x2 kh I J) : Wp Γ 3 42 [(0, .ref (ad Γ 177)), (1, .int x1), (2, .int x2)] [] I J := by
  unfold f_Model_numberOfSet_b42 at h
  refine wp_iload_n X dX11_numberOfSet_42 1 rfl ?_
  refine wp_sub X [0, 2] rfl ?_
  exact w_Model_numberOfSet_b43 X Y hkh h

set_option maxRecDepth 100000 in
set_option maxHeartbeats 4000000 in
theorem w_Model_numberOfSet_L4 {Γ : Ctx} {Q : Int32 → MI → MJ → Prop}  {k50 : Int32 → MI → MJ → Prop} (X : Cx Γ cX11_numberOfSet 3 RX11 0) (Y : Rt Γ (Pi Q) (Option.some Jvm.ClassFile.FieldType.int))  (hk50 : ∀ (x1 : Int32) (I : MI) (J : MJ), k50 x1 I J → Wp Γ 3 50 [(0, .ref (ad Γ 177)), (1, .int x1)] [] I J) : ∀ (n : Nat) (x1 : Int32) (x2 : Int32) (I : MI) (J : MJ), f_Model_numberOfSet_L4 k50 n x1 x2 I J → Wp Γ 3 4 [(0, .ref (ad Γ 177)), (1, .int x1), (2, .int x2)] [] I J := by
  intro n
  induction n with
  | zero => intro x1 x2 I J h; exact absurd h (by simp [f_Model_numberOfSet_L4])
  | succ n ih =>
  intro x1 x2 I J h
  unfold f_Model_numberOfSet_L4 at h
  refine wp_iload_n X dX11_numberOfSet_4 2 rfl ?_
  refine wp_aload_n X dX11_numberOfSet_5 0 rfl ?_
  refine gf_X11_303 X sh_177 dX11_numberOfSet_6 ?_
  refine wp_icmp_ge (tgt := 50) X dX11_numberOfSet_9 (by decide) (fun hc => ?_) (fun hc => ?_)
  · have h := ite_t h hc
    refine wp_sub X [0, 1] rfl ?_
    exact hk50 _ _ _ h
  · have h := ite_f h hc
    refine wp_aload_n X dX11_numberOfSet_12 0 rfl ?_
    refine gf_X11_93 (o' := 205) X sh_177 rfl dX11_numberOfSet_13 ?_
    refine wp_iload_n X dX11_numberOfSet_16 2 rfl ?_
    obtain ⟨hb17, h⟩ := h
    refine wp_iald X sh_205 hb17 dX11_numberOfSet_17 ?_
    refine wp_aload_n X dX11_numberOfSet_18 0 rfl ?_
    refine gf_X11_288 X sh_177 dX11_numberOfSet_19 ?_
    refine wp_icmp_ne (tgt := 42) X dX11_numberOfSet_22 (by decide) (fun hc => ?_) (fun hc => ?_)
    · have h := ite_f h hc
      exact w_Model_numberOfSet_b42 X Y ih h
    · have h := ite_t h hc
      refine wp_aload_n X dX11_numberOfSet_25 0 rfl ?_
      refine gf_X11_96 (o' := 206) X sh_177 rfl dX11_numberOfSet_26 ?_
      refine wp_iload_n X dX11_numberOfSet_29 2 rfl ?_
      obtain ⟨hb30, h⟩ := h
      refine wp_iald X sh_206 hb30 dX11_numberOfSet_30 ?_
      refine wp_aload_n X dX11_numberOfSet_31 0 rfl ?_
      refine gf_X11_291 X sh_177 dX11_numberOfSet_32 ?_
      refine wp_icmp_ne (tgt := 42) X dX11_numberOfSet_35 (by decide) (fun hc => ?_) (fun hc => ?_)
      · have h := ite_f h hc
        exact w_Model_numberOfSet_b42 X Y ih h
      · have h := ite_t h hc
        refine wp_iload_n X dX11_numberOfSet_38 2 rfl ?_
        refine wp_goto (tgt := 43) X dX11_numberOfSet_39 (by decide) ?_
        refine wp_sub X [0, 2] rfl ?_
        exact w_Model_numberOfSet_b43 X Y ih h

set_option maxRecDepth 100000 in
set_option maxHeartbeats 4000000 in
theorem w_Model_numberOfSet_b0 {Γ : Ctx} {Q : Int32 → MI → MJ → Prop}   (X : Cx Γ cX11_numberOfSet 3 RX11 0) (Y : Rt Γ (Pi Q) (Option.some Jvm.ClassFile.FieldType.int))   {I : MI} {J : MJ} (h : f_Model_numberOfSet  I J Q) : Wp Γ 3 0 [(0, .ref (ad Γ 177))] [] I J := by
  unfold f_Model_numberOfSet at h
  refine wp_iconst X dX11_numberOfSet_0 ic_m1 ?_
  refine wp_istore_n (L' := [(1, .int (-1)), (0, .ref (ad Γ 177))]) X dX11_numberOfSet_1 rfl (by decide) rfl ?_
  refine wp_iconst X dX11_numberOfSet_2 ic_0 ?_
  refine wp_istore_n (L' := [(2, .int 0), (1, .int (-1)), (0, .ref (ad Γ 177))]) X dX11_numberOfSet_3 rfl (by decide) rfl ?_
  obtain ⟨n, h⟩ := h
  refine wp_sub X [2, 1, 0] rfl ?_
  refine w_Model_numberOfSet_L4 X Y  ?_ n _ _ _ _ h
  · intro z50_x1 I J h
    refine wp_iload_n X dX11_numberOfSet_50 1 rfl ?_
    refine wp_if_ge (tgt := 89) X dX11_numberOfSet_51 (by decide) (fun hc => ?_) (fun hc => ?_)
    · have h := ite_t h hc
      refine wp_iload_n X dX11_numberOfSet_89 1 rfl ?_
      exact wp_iret X Y dX11_numberOfSet_90 ⟨_, rfl, h⟩
    · have h := ite_f h hc
      refine wp_aload_n X dX11_numberOfSet_54 0 rfl ?_
      refine gf_X11_303 X sh_177 dX11_numberOfSet_55 ?_
      refine wp_topi (fun t58 et58 => ?_)
      have h := h t58 et58
      refine wp_istore_n (L' := [(1, .int t58), (0, .ref (ad Γ 177))]) X dX11_numberOfSet_58 rfl (by decide) rfl ?_
      refine wp_aload_n X dX11_numberOfSet_59 1 rfl ?_
      refine gf_X11_93 (o' := 205) X sh_177 rfl dX11_numberOfSet_60 ?_
      refine wp_iload_n X dX11_numberOfSet_63 0 rfl ?_
      refine wp_aload_n X dX11_numberOfSet_64 1 rfl ?_
      refine gf_X11_288 X sh_177 dX11_numberOfSet_65 ?_
      obtain ⟨hb68, h⟩ := h
      refine wp_iast X sh_205 hb68 dX11_numberOfSet_68 ?_
      refine wp_memI (fun I68 eI68 => ?_)
      have h := h I68 eI68
      refine wp_aload_n X dX11_numberOfSet_69 1 rfl ?_
      refine gf_X11_96 (o' := 206) X sh_177 rfl dX11_numberOfSet_70 ?_
      refine wp_iload_n X dX11_numberOfSet_73 0 rfl ?_
      refine wp_aload_n X dX11_numberOfSet_74 1 rfl ?_
      refine gf_X11_291 X sh_177 dX11_numberOfSet_75 ?_
      obtain ⟨hb78, h⟩ := h
      refine wp_iast X sh_206 hb78 dX11_numberOfSet_78 ?_
      refine wp_memI (fun I78 eI78 => ?_)
      have h := h I78 eI78
      refine wp_aload_n X dX11_numberOfSet_79 1 rfl ?_
      refine wp_dup X dX11_numberOfSet_80 rfl ?_
      refine gf_X11_303 X sh_177 dX11_numberOfSet_81 ?_
      refine wp_iconst X dX11_numberOfSet_84 ic_1 ?_
      refine wp_iadd X dX11_numberOfSet_85 ?_
      refine pf_X11_303 X sh_177 dX11_numberOfSet_86 (fun I86 eI86 => ?_)
      have h := h I86 eI86
      refine wp_iload_n X dX11_numberOfSet_89 0 rfl ?_
      exact wp_iret X Y dX11_numberOfSet_90 ⟨_, rfl, h⟩

theorem c_Model_numberOfSet {l : Launch} {g : GE} (hg : Inj g) {I : MI} {J : MJ} {Q : Int32 → MI → MJ → Prop}   (h : f_Model_numberOfSet  I J Q) : Cm l g yX11_numberOfSet cX11_numberOfSet 3 (Option.some Jvm.ClassFile.FieldType.int) 0 [.ref (g.1 177)] I J (Pi Q) := by
  refine Cm.of (As := fun ad => [.ref (ad 177)]) hg pn_X11 (Nat.le_of_ble_eq_true rfl) ?_
  exact (fun Γ _ _ X Y => w_Model_numberOfSet_b0 X Y  h)
theorem cv_Model_numberOfSet {Γ : Ctx} {cc : ByteArray} {nL d pc index : Nat} {own : String} {L : List (Nat × Value)} {rest : List Value} {I : MI} {J : MJ} {Q : Int32 → MI → MJ → Prop}  (X : Cx Γ cc nL own d) (hd : decode cc pc = .ok (.invokevirtual index, 3)) (hlink : Cond.methodLink own index yX11_numberOfSet ∈ TT)  (h : f_Model_numberOfSet  I J Q) (hrest : (rest.map fun v => v.category).sum ≤ 8) (hdd : 0 + 1 ≤ d) (kk : ∀ (r : Int32) (I' : MI) (J' : MJ), Q r I' J' → Wp Γ nL (pc + 3) L (.int r :: rest) I' J') : Wp Γ nL pc L (.ref (ad Γ 177) :: rest) I J :=
  wp_callV (As := []) (rest := rest) (T := TX11) (N := 62) X hd hlink mv_X11_numberOfSet sh_177 (by decide) rfl (c_Model_numberOfSet X.inj  h) rfl rfl hrest hdd (fun v I' J' hv => by obtain ⟨r, rfl, hq⟩ := hv; exact kk r I' J' hq)
theorem dX11_findSets_0 : decode cX11_findSets 0 = .ok (.iload_n 1, 1) := by decide +kernel
theorem dX11_findSets_1 : decode cX11_findSets 1 = .ok (.iconst 3, 1) := by decide +kernel
theorem dX11_findSets_2 : decode cX11_findSets 2 = .ok (.if_icmp .ge 9, 3) := by decide +kernel
theorem dX11_findSets_5 : decode cX11_findSets 5 = .ok (.sipush 300, 3) := by decide +kernel
theorem dX11_findSets_8 : decode cX11_findSets 8 = .ok (.goto 6, 3) := by decide +kernel
theorem dX11_findSets_11 : decode cX11_findSets 11 = .ok (.sipush 200, 3) := by decide +kernel
theorem dX11_findSets_14 : decode cX11_findSets 14 = .ok (.istore_n 3, 1) := by decide +kernel
theorem dX11_findSets_15 : decode cX11_findSets 15 = .ok (.aload_n 0, 1) := by decide +kernel
theorem dX11_findSets_16 : decode cX11_findSets 16 = .ok (.iconst 0, 1) := by decide +kernel
theorem dX11_findSets_17 : decode cX11_findSets 17 = .ok (.putfield 303, 3) := by decide +kernel
theorem dX11_findSets_20 : decode cX11_findSets 20 = .ok (.aload_n 0, 1) := by decide +kernel
theorem dX11_findSets_21 : decode cX11_findSets 21 = .ok (.iload_n 1, 1) := by decide +kernel
theorem dX11_findSets_22 : decode cX11_findSets 22 = .ok (.invokevirtual 306, 3) := by decide +kernel
theorem dX11_findSets_25 : decode cX11_findSets 25 = .ok (.aload_n 0, 1) := by decide +kernel
theorem dX11_findSets_26 : decode cX11_findSets 26 = .ok (.invokevirtual 309, 3) := by decide +kernel
theorem dX11_findSets_29 : decode cX11_findSets 29 = .ok (.istore 4, 2) := by decide +kernel
theorem dX11_findSets_31 : decode cX11_findSets 31 = .ok (.iload 4, 2) := by decide +kernel
theorem dX11_findSets_33 : decode cX11_findSets 33 = .ok (.istore 5, 2) := by decide +kernel
theorem dX11_findSets_35 : decode cX11_findSets 35 = .ok (.iload 5, 2) := by decide +kernel
theorem dX11_findSets_37 : decode cX11_findSets 37 = .ok (.aload_n 0, 1) := by decide +kernel
theorem dX11_findSets_38 : decode cX11_findSets 38 = .ok (.getfield 303, 3) := by decide +kernel
theorem dX11_findSets_41 : decode cX11_findSets 41 = .ok (.if_icmp .ge 75, 3) := by decide +kernel
theorem dX11_findSets_44 : decode cX11_findSets 44 = .ok (.aload_n 0, 1) := by decide +kernel
theorem dX11_findSets_45 : decode cX11_findSets 45 = .ok (.getfield 303, 3) := by decide +kernel
theorem dX11_findSets_48 : decode cX11_findSets 48 = .ok (.iload_n 3, 1) := by decide +kernel
theorem dX11_findSets_49 : decode cX11_findSets 49 = .ok (.if_icmp .gt 67, 3) := by decide +kernel
theorem dX11_findSets_52 : decode cX11_findSets 52 = .ok (.aload_n 0, 1) := by decide +kernel
theorem dX11_findSets_53 : decode cX11_findSets 53 = .ok (.getfield 102, 3) := by decide +kernel
theorem dX11_findSets_56 : decode cX11_findSets 56 = .ok (.iload 5, 2) := by decide +kernel
theorem dX11_findSets_58 : decode cX11_findSets 58 = .ok (.aload_n 0, 1) := by decide +kernel
theorem dX11_findSets_59 : decode cX11_findSets 59 = .ok (.iload_n 1, 1) := by decide +kernel
theorem dX11_findSets_60 : decode cX11_findSets 60 = .ok (.iload 5, 2) := by decide +kernel
theorem dX11_findSets_62 : decode cX11_findSets 62 = .ok (.invokevirtual 313, 3) := by decide +kernel
theorem dX11_findSets_65 : decode cX11_findSets 65 = .ok (.bastore, 1) := by decide +kernel
theorem dX11_findSets_66 : decode cX11_findSets 66 = .ok (.iconst 0, 1) := by decide +kernel
theorem dX11_findSets_67 : decode cX11_findSets 67 = .ok (.istore 6, 2) := by decide +kernel
theorem dX11_findSets_69 : decode cX11_findSets 69 = .ok (.iload 6, 2) := by decide +kernel
theorem dX11_findSets_71 : decode cX11_findSets 71 = .ok (.iload_n 2, 1) := by decide +kernel
theorem dX11_findSets_72 : decode cX11_findSets 72 = .ok (.if_icmp .ge 38, 3) := by decide +kernel
theorem dX11_findSets_75 : decode cX11_findSets 75 = .ok (.aload_n 0, 1) := by decide +kernel
theorem dX11_findSets_76 : decode cX11_findSets 76 = .ok (.iload_n 1, 1) := by decide +kernel
theorem dX11_findSets_77 : decode cX11_findSets 77 = .ok (.iload 5, 2) := by decide +kernel
theorem dX11_findSets_79 : decode cX11_findSets 79 = .ok (.iload 6, 2) := by decide +kernel
theorem dX11_findSets_81 : decode cX11_findSets 81 = .ok (.invokevirtual 316, 3) := by decide +kernel
theorem dX11_findSets_84 : decode cX11_findSets 84 = .ok (.aload_n 0, 1) := by decide +kernel
theorem dX11_findSets_85 : decode cX11_findSets 85 = .ok (.invokevirtual 309, 3) := by decide +kernel
theorem dX11_findSets_88 : decode cX11_findSets 88 = .ok (.istore 7, 2) := by decide +kernel
theorem dX11_findSets_90 : decode cX11_findSets 90 = .ok (.aload_n 0, 1) := by decide +kernel
theorem dX11_findSets_91 : decode cX11_findSets 91 = .ok (.getfield 99, 3) := by decide +kernel
theorem dX11_findSets_94 : decode cX11_findSets 94 = .ok (.iconst 4, 1) := by decide +kernel
theorem dX11_findSets_95 : decode cX11_findSets 95 = .ok (.iload 5, 2) := by decide +kernel
theorem dX11_findSets_97 : decode cX11_findSets 97 = .ok (.imul, 1) := by decide +kernel
theorem dX11_findSets_98 : decode cX11_findSets 98 = .ok (.iload 6, 2) := by decide +kernel
theorem dX11_findSets_100 : decode cX11_findSets 100 = .ok (.iadd, 1) := by decide +kernel
theorem dX11_findSets_101 : decode cX11_findSets 101 = .ok (.iload 7, 2) := by decide +kernel
theorem dX11_findSets_103 : decode cX11_findSets 103 = .ok (.iastore, 1) := by decide +kernel
theorem dX11_findSets_104 : decode cX11_findSets 104 = .ok (.iinc 6 1, 3) := by decide +kernel
theorem dX11_findSets_107 : decode cX11_findSets 107 = .ok (.goto (-38), 3) := by decide +kernel
theorem dX11_findSets_110 : decode cX11_findSets 110 = .ok (.iinc 5 1, 3) := by decide +kernel
theorem dX11_findSets_113 : decode cX11_findSets 113 = .ok (.goto (-78), 3) := by decide +kernel
theorem dX11_findSets_116 : decode cX11_findSets 116 = .ok (.aload_n 0, 1) := by decide +kernel
theorem dX11_findSets_117 : decode cX11_findSets 117 = .ok (.getfield 303, 3) := by decide +kernel
theorem dX11_findSets_120 : decode cX11_findSets 120 = .ok (.iload_n 3, 1) := by decide +kernel
theorem dX11_findSets_121 : decode cX11_findSets 121 = .ok (.if_icmp .gt 7, 3) := by decide +kernel
theorem dX11_findSets_124 : decode cX11_findSets 124 = .ok (.iconst 1, 1) := by decide +kernel
theorem dX11_findSets_125 : decode cX11_findSets 125 = .ok (.goto 4, 3) := by decide +kernel
theorem dX11_findSets_128 : decode cX11_findSets 128 = .ok (.iconst 0, 1) := by decide +kernel
theorem dX11_findSets_129 : decode cX11_findSets 129 = .ok (.ireturn, 1) := by decide +kernel
def f_Model_findSets_b116 (x3 : Int32) (Q : Int32 → MI → MJ → Prop) (I : MI) (J : MJ) : Prop :=
  (if x3 < (I 177 32) then Q 0 I J else Q 1 I J)
def f_Model_findSets_L69 (x1 : Int32) (x2 : Int32) (x5 : Int32) (k110 : MI → MJ → Prop) : Nat → Int32 → MI → MJ → Prop
  | 0, _, _, _ => False
  | nf69 + 1, x6, I, J =>
  (if x2 ≤ x6 then k110 I J else f_Model_nextSet x1 x5 x6 I J (fun I81 J81 => f_Model_numberOfSet I81 J81 (fun r85 I85 J85 => vp_in ((4 * x5) + x6) 2048 ∧ ∀ I103 : MI, I103 = sI I85 207 (upd (I85 207) ((4 * x5) + x6).toNatClampNeg r85) → ∀ t104 : Int32, t104 = x6 + 1 → f_Model_findSets_L69 x1 x2 x5 k110 nf69 t104 I103 J85)))
def f_Model_findSets_L35 (x1 : Int32) (x2 : Int32) (x3 : Int32) (k116 : MI → MJ → Prop) : Nat → Int32 → MI → MJ → Prop
  | 0, _, _, _ => False
  | nf35 + 1, x5, I, J =>
  (if (I 177 32) ≤ x5 then k116 I J else (if x3 < (I 177 32) then k116 I J else f_Model_belongs x1 x5 I J (fun r62 I62 J62 => vp_in x5 512 ∧ ∀ I65 : MI, I65 = sI I62 208 (upd (I62 208) x5.toNatClampNeg (vp_nar .boolean r62)) → ∃ n, f_Model_findSets_L69 x1 x2 x5 (fun (I : MI) (J : MJ) => ∀ t110 : Int32, t110 = x5 + 1 → f_Model_findSets_L35 x1 x2 x3 k116 nf35 t110 I J) n 0 I65 J62)))
def f_Model_findSets_b14 (x1 : Int32) (x2 : Int32) (s0 : Int32) (Q : Int32 → MI → MJ → Prop) (I : MI) (J : MJ) : Prop :=
  ∀ I17 : MI, I17 = sI I 177 (upd (I 177) 32 0) → f_Model_firstSet x1 I17 J (fun I22 J22 => f_Model_numberOfSet I22 J22 (fun r26 I26 J26 => ∃ n, f_Model_findSets_L35 x1 x2 s0 (fun (I : MI) (J : MJ) => f_Model_findSets_b116 s0 Q I J) n r26 I26 J26))
def f_Model_findSets (x1 : Int32) (x2 : Int32) (I : MI) (J : MJ) (Q : Int32 → MI → MJ → Prop) : Prop :=
  (if 3 ≤ x1 then f_Model_findSets_b14 x1 x2 200 Q I J else f_Model_findSets_b14 x1 x2 300 Q I J)
set_option maxRecDepth 100000 in
set_option maxHeartbeats 4000000 in
theorem w_Model_findSets_b116 {Γ : Ctx} {Q : Int32 → MI → MJ → Prop} {x3 : Int32}  (X : Cx Γ cX11_findSets 8 RX11 4) (Y : Rt Γ (Pi Q) (Option.some Jvm.ClassFile.FieldType.boolean))   {I : MI} {J : MJ} (h : f_Model_findSets_b116 x3 Q I J) : Wp Γ 8 116 [(0, .ref (ad Γ 177)), (3, .int x3)] [] I J := by
  unfold f_Model_findSets_b116 at h
  refine wp_aload_n X dX11_findSets_116 0 rfl ?_
  refine gf_X11_303 X sh_177 dX11_findSets_117 ?_
  refine wp_iload_n X dX11_findSets_120 1 rfl ?_
  refine wp_icmp_gt (tgt := 128) X dX11_findSets_121 (by decide) (fun hc => ?_) (fun hc => ?_)
  · have h := ite_t h hc
    refine wp_iconst X dX11_findSets_128 ic_0 ?_
    exact wp_zret X Y dX11_findSets_129 (by decide) ⟨_, rfl, h⟩
  · have h := ite_f h hc
    refine wp_iconst X dX11_findSets_124 ic_1 ?_
    refine wp_goto (tgt := 129) X dX11_findSets_125 (by decide) ?_
    exact wp_zret X Y dX11_findSets_129 (by decide) ⟨_, rfl, h⟩

set_option maxRecDepth 100000 in
set_option maxHeartbeats 4000000 in
theorem w_Model_findSets_L69 {Γ : Ctx} {Q : Int32 → MI → MJ → Prop} {x1 : Int32} {x2 : Int32} {x3 : Int32} {x5 : Int32} {k110 : MI → MJ → Prop} (X : Cx Γ cX11_findSets 8 RX11 4) (Y : Rt Γ (Pi Q) (Option.some Jvm.ClassFile.FieldType.boolean))  (hk110 : ∀ (I : MI) (J : MJ), k110 I J → Wp Γ 8 110 [(0, .ref (ad Γ 177)), (1, .int x1), (2, .int x2), (3, .int x3), (5, .int x5)] [] I J) : ∀ (n : Nat) (x6 : Int32) (I : MI) (J : MJ), f_Model_findSets_L69 x1 x2 x5 k110 n x6 I J → Wp Γ 8 69 [(0, .ref (ad Γ 177)), (1, .int x1), (2, .int x2), (3, .int x3), (5, .int x5), (6, .int x6)] [] I J := by
  intro n
  induction n with
  | zero => intro x6 I J h; exact absurd h (by simp [f_Model_findSets_L69])
  | succ n ih =>
  intro x6 I J h
  unfold f_Model_findSets_L69 at h
  refine wp_iload X dX11_findSets_69 5 rfl ?_
  refine wp_iload_n X dX11_findSets_71 2 rfl ?_
  refine wp_icmp_ge (tgt := 110) X dX11_findSets_72 (by decide) (fun hc => ?_) (fun hc => ?_)
  · have h := ite_t h hc
    refine wp_sub X [0, 1, 2, 3, 4] rfl ?_
    exact hk110 _ _ h
  · have h := ite_f h hc
    refine wp_aload_n X dX11_findSets_75 0 rfl ?_
    refine wp_iload_n X dX11_findSets_76 1 rfl ?_
    refine wp_iload X dX11_findSets_77 4 rfl ?_
    refine wp_iload X dX11_findSets_79 5 rfl ?_
    refine cv_Model_nextSet X dX11_findSets_81 ml_X11_316  h (Nat.le_of_ble_eq_true rfl) (by decide) (fun I81 J81 h => ?_)
    refine wp_aload_n X dX11_findSets_84 0 rfl ?_
    refine cv_Model_numberOfSet X dX11_findSets_85 ml_X11_309  h (Nat.le_of_ble_eq_true rfl) (by decide) (fun r85 I85 J85 h => ?_)
    refine wp_istore (L' := [(7, .int r85), (0, .ref (ad Γ 177)), (1, .int x1), (2, .int x2), (3, .int x3), (5, .int x5), (6, .int x6)]) X dX11_findSets_88 (by decide) rfl ?_
    refine wp_aload_n X dX11_findSets_90 1 rfl ?_
    refine gf_X11_99 (o' := 207) X sh_177 rfl dX11_findSets_91 ?_
    refine wp_iconst X dX11_findSets_94 ic_4 ?_
    refine wp_iload X dX11_findSets_95 5 rfl ?_
    refine wp_imul X dX11_findSets_97 ?_
    refine wp_iload X dX11_findSets_98 6 rfl ?_
    refine wp_iadd X dX11_findSets_100 ?_
    refine wp_iload X dX11_findSets_101 0 rfl ?_
    obtain ⟨hb103, h⟩ := h
    refine wp_iast X sh_207 hb103 dX11_findSets_103 ?_
    refine wp_memI (fun I103 eI103 => ?_)
    have h := h I103 eI103
    obtain ⟨t104, et104⟩ : ∃ y : Int32, y = x6 + 1 := ⟨_, rfl⟩
    have h := h t104 et104
    refine wp_iinc (L' := [(6, .int t104), (7, .int r85), (0, .ref (ad Γ 177)), (1, .int x1), (2, .int x2), (3, .int x3), (5, .int x5)]) X dX11_findSets_104 6 rfl (ii_1 et104) (by decide) rfl ?_
    refine wp_goto (tgt := 69) X dX11_findSets_107 (by decide) ?_
    refine wp_sub X [2, 3, 4, 5, 6, 0] rfl ?_
    exact ih _ _ _ h

set_option maxRecDepth 100000 in
set_option maxHeartbeats 4000000 in
theorem w_Model_findSets_L35 {Γ : Ctx} {Q : Int32 → MI → MJ → Prop} {x1 : Int32} {x2 : Int32} {x3 : Int32} {k116 : MI → MJ → Prop} (X : Cx Γ cX11_findSets 8 RX11 4) (Y : Rt Γ (Pi Q) (Option.some Jvm.ClassFile.FieldType.boolean))  (hk116 : ∀ (I : MI) (J : MJ), k116 I J → Wp Γ 8 116 [(0, .ref (ad Γ 177)), (3, .int x3)] [] I J) : ∀ (n : Nat) (x5 : Int32) (I : MI) (J : MJ), f_Model_findSets_L35 x1 x2 x3 k116 n x5 I J → Wp Γ 8 35 [(0, .ref (ad Γ 177)), (1, .int x1), (2, .int x2), (3, .int x3), (5, .int x5)] [] I J := by
  intro n
  induction n with
  | zero => intro x5 I J h; exact absurd h (by simp [f_Model_findSets_L35])
  | succ n ih =>
  intro x5 I J h
  unfold f_Model_findSets_L35 at h
  refine wp_iload X dX11_findSets_35 4 rfl ?_
  refine wp_aload_n X dX11_findSets_37 0 rfl ?_
  refine gf_X11_303 X sh_177 dX11_findSets_38 ?_
  refine wp_icmp_ge (tgt := 116) X dX11_findSets_41 (by decide) (fun hc => ?_) (fun hc => ?_)
  · have h := ite_t h hc
    refine wp_sub X [0, 3] rfl ?_
    exact hk116 _ _ h
  · have h := ite_f h hc
    refine wp_aload_n X dX11_findSets_44 0 rfl ?_
    refine gf_X11_303 X sh_177 dX11_findSets_45 ?_
    refine wp_iload_n X dX11_findSets_48 3 rfl ?_
    refine wp_icmp_gt (tgt := 116) X dX11_findSets_49 (by decide) (fun hc => ?_) (fun hc => ?_)
    · have h := ite_t h hc
      refine wp_sub X [0, 3] rfl ?_
      exact hk116 _ _ h
    · have h := ite_f h hc
      refine wp_aload_n X dX11_findSets_52 0 rfl ?_
      refine gf_X11_102 (o' := 208) X sh_177 rfl dX11_findSets_53 ?_
      refine wp_iload X dX11_findSets_56 4 rfl ?_
      refine wp_aload_n X dX11_findSets_58 0 rfl ?_
      refine wp_iload_n X dX11_findSets_59 1 rfl ?_
      refine wp_iload X dX11_findSets_60 4 rfl ?_
      refine cv_Model_belongs X dX11_findSets_62 ml_X11_313  h (Nat.le_of_ble_eq_true rfl) (by decide) (fun r62 I62 J62 h => ?_)
      obtain ⟨hb65, h⟩ := h
      refine wp_zast X sh_208 hb65 dX11_findSets_65 ?_
      refine wp_memI (fun I65 eI65 => ?_)
      have h := h I65 eI65
      refine wp_iconst X dX11_findSets_66 ic_0 ?_
      refine wp_istore (L' := [(6, .int 0), (0, .ref (ad Γ 177)), (1, .int x1), (2, .int x2), (3, .int x3), (5, .int x5)]) X dX11_findSets_67 (by decide) rfl ?_
      obtain ⟨n, h⟩ := h
      refine wp_sub X [1, 2, 3, 4, 5, 0] rfl ?_
      refine w_Model_findSets_L69 X Y  ?_ n _ _ _ h
      · intro I J h
        obtain ⟨t110, et110⟩ : ∃ y : Int32, y = x5 + 1 := ⟨_, rfl⟩
        have h := h t110 et110
        refine wp_iinc (L' := [(5, .int t110), (0, .ref (ad Γ 177)), (1, .int x1), (2, .int x2), (3, .int x3)]) X dX11_findSets_110 4 rfl (ii_1 et110) (by decide) rfl ?_
        refine wp_goto (tgt := 35) X dX11_findSets_113 (by decide) ?_
        refine wp_sub X [1, 2, 3, 4, 0] rfl ?_
        exact ih _ _ _ h

set_option maxRecDepth 100000 in
set_option maxHeartbeats 4000000 in
theorem w_Model_findSets_b14 {Γ : Ctx} {Q : Int32 → MI → MJ → Prop} {x1 : Int32} {x2 : Int32} {s0 : Int32}  (X : Cx Γ cX11_findSets 8 RX11 4) (Y : Rt Γ (Pi Q) (Option.some Jvm.ClassFile.FieldType.boolean))   {I : MI} {J : MJ} (h : f_Model_findSets_b14 x1 x2 s0 Q I J) : Wp Γ 8 14 [(0, .ref (ad Γ 177)), (1, .int x1), (2, .int x2)] [.int s0] I J := by
  unfold f_Model_findSets_b14 at h
  refine wp_istore_n (L' := [(3, .int s0), (0, .ref (ad Γ 177)), (1, .int x1), (2, .int x2)]) X dX11_findSets_14 rfl (by decide) rfl ?_
  refine wp_aload_n X dX11_findSets_15 1 rfl ?_
  refine wp_iconst X dX11_findSets_16 ic_0 ?_
  refine pf_X11_303 X sh_177 dX11_findSets_17 (fun I17 eI17 => ?_)
  have h := h I17 eI17
  refine wp_aload_n X dX11_findSets_20 1 rfl ?_
  refine wp_iload_n X dX11_findSets_21 2 rfl ?_
  refine cv_Model_firstSet X dX11_findSets_22 ml_X11_306  h (Nat.le_of_ble_eq_true rfl) (by decide) (fun I22 J22 h => ?_)
  refine wp_aload_n X dX11_findSets_25 1 rfl ?_
  refine cv_Model_numberOfSet X dX11_findSets_26 ml_X11_309  h (Nat.le_of_ble_eq_true rfl) (by decide) (fun r26 I26 J26 h => ?_)
  refine wp_istore (L' := [(4, .int r26), (3, .int s0), (0, .ref (ad Γ 177)), (1, .int x1), (2, .int x2)]) X dX11_findSets_29 (by decide) rfl ?_
  refine wp_iload X dX11_findSets_31 0 rfl ?_
  refine wp_istore (L' := [(5, .int r26), (4, .int r26), (3, .int s0), (0, .ref (ad Γ 177)), (1, .int x1), (2, .int x2)]) X dX11_findSets_33 (by decide) rfl ?_
  obtain ⟨n, h⟩ := h
  refine wp_sub X [3, 4, 5, 2, 0] rfl ?_
  refine w_Model_findSets_L35 X Y  ?_ n _ _ _ h
  · intro I J h
    exact w_Model_findSets_b116 X Y  h

set_option maxRecDepth 100000 in
set_option maxHeartbeats 4000000 in
theorem w_Model_findSets_b0 {Γ : Ctx} {Q : Int32 → MI → MJ → Prop} {x1 : Int32} {x2 : Int32}  (X : Cx Γ cX11_findSets 8 RX11 4) (Y : Rt Γ (Pi Q) (Option.some Jvm.ClassFile.FieldType.boolean))   {I : MI} {J : MJ} (h : f_Model_findSets x1 x2 I J Q) : Wp Γ 8 0 [(0, .ref (ad Γ 177)), (1, .int x1), (2, .int x2)] [] I J := by
  unfold f_Model_findSets at h
  refine wp_iload_n X dX11_findSets_0 1 rfl ?_
  refine wp_iconst X dX11_findSets_1 ic_3 ?_
  refine wp_icmp_ge (tgt := 11) X dX11_findSets_2 (by decide) (fun hc => ?_) (fun hc => ?_)
  · have h := ite_t h hc
    refine wp_sipush X dX11_findSets_11 si_200 ?_
    exact w_Model_findSets_b14 X Y  h
  · have h := ite_f h hc
    refine wp_sipush X dX11_findSets_5 si_300 ?_
    refine wp_goto (tgt := 14) X dX11_findSets_8 (by decide) ?_
    exact w_Model_findSets_b14 X Y  h

theorem c_Model_findSets {l : Launch} {g : GE} (hg : Inj g) {I : MI} {J : MJ} {Q : Int32 → MI → MJ → Prop} {x1 : Int32} {x2 : Int32}  (h : f_Model_findSets x1 x2 I J Q) : Cm l g yX11_findSets cX11_findSets 8 (Option.some Jvm.ClassFile.FieldType.boolean) 4 [.ref (g.1 177), .int x1, .int x2] I J (Pi Q) := by
  refine Cm.of (As := fun ad => [.ref (ad 177), .int x1, .int x2]) hg pn_X11 (Nat.le_of_ble_eq_true rfl) ?_
  exact (fun Γ _ _ X Y => w_Model_findSets_b0 X Y  h)
theorem cv_Model_findSets {Γ : Ctx} {cc : ByteArray} {nL d pc index : Nat} {own : String} {L : List (Nat × Value)} {rest : List Value} {I : MI} {J : MJ} {Q : Int32 → MI → MJ → Prop} {x1 : Int32} {x2 : Int32} (X : Cx Γ cc nL own d) (hd : decode cc pc = .ok (.invokevirtual index, 3)) (hlink : Cond.methodLink own index yX11_findSets ∈ TT)  (h : f_Model_findSets x1 x2 I J Q) (hrest : (rest.map fun v => v.category).sum ≤ 8) (hdd : 4 + 1 ≤ d) (kk : ∀ (r : Int32) (I' : MI) (J' : MJ), Q r I' J' → Wp Γ nL (pc + 3) L (.int r :: rest) I' J') : Wp Γ nL pc L (.int x2 :: .int x1 :: .ref (ad Γ 177) :: rest) I J :=
  wp_callV (As := [.int x1, .int x2]) (rest := rest) (T := TX11) (N := 62) X hd hlink mv_X11_findSets sh_177 (by decide) rfl (c_Model_findSets X.inj  h) rfl rfl hrest hdd (fun v I' J' hv => by obtain ⟨r, rfl, hq⟩ := hv; exact kk r I' J' hq)
theorem dX11_areOne_0 : decode cX11_areOne 0 = .ok (.aload_n 0, 1) := by decide +kernel
theorem dX11_areOne_1 : decode cX11_areOne 1 = .ok (.getfield 105, 3) := by decide +kernel
theorem dX11_areOne_4 : decode cX11_areOne 4 = .ok (.iload_n 1, 1) := by decide +kernel
theorem dX11_areOne_5 : decode cX11_areOne 5 = .ok (.iaload, 1) := by decide +kernel
theorem dX11_areOne_6 : decode cX11_areOne 6 = .ok (.aload_n 0, 1) := by decide +kernel
theorem dX11_areOne_7 : decode cX11_areOne 7 = .ok (.getfield 105, 3) := by decide +kernel
theorem dX11_areOne_10 : decode cX11_areOne 10 = .ok (.iload_n 2, 1) := by decide +kernel
theorem dX11_areOne_11 : decode cX11_areOne 11 = .ok (.iaload, 1) := by decide +kernel
theorem dX11_areOne_12 : decode cX11_areOne 12 = .ok (.if_icmp .ne 7, 3) := by decide +kernel
theorem dX11_areOne_15 : decode cX11_areOne 15 = .ok (.iconst 1, 1) := by decide +kernel
theorem dX11_areOne_16 : decode cX11_areOne 16 = .ok (.goto 4, 3) := by decide +kernel
theorem dX11_areOne_19 : decode cX11_areOne 19 = .ok (.iconst 0, 1) := by decide +kernel
theorem dX11_areOne_20 : decode cX11_areOne 20 = .ok (.istore 4, 2) := by decide +kernel
theorem dX11_areOne_22 : decode cX11_areOne 22 = .ok (.iconst 0, 1) := by decide +kernel
theorem dX11_areOne_23 : decode cX11_areOne 23 = .ok (.istore 5, 2) := by decide +kernel
theorem dX11_areOne_25 : decode cX11_areOne 25 = .ok (.iload 5, 2) := by decide +kernel
theorem dX11_areOne_27 : decode cX11_areOne 27 = .ok (.iload_n 3, 1) := by decide +kernel
theorem dX11_areOne_28 : decode cX11_areOne 28 = .ok (.if_icmp .ge 56, 3) := by decide +kernel
theorem dX11_areOne_31 : decode cX11_areOne 31 = .ok (.iload 4, 2) := by decide +kernel
theorem dX11_areOne_33 : decode cX11_areOne 33 = .ok (.ifCond .eq 51, 3) := by decide +kernel
theorem dX11_areOne_36 : decode cX11_areOne 36 = .ok (.aload_n 0, 1) := by decide +kernel
theorem dX11_areOne_37 : decode cX11_areOne 37 = .ok (.getfield 105, 3) := by decide +kernel
theorem dX11_areOne_40 : decode cX11_areOne 40 = .ok (.aload_n 0, 1) := by decide +kernel
theorem dX11_areOne_41 : decode cX11_areOne 41 = .ok (.getfield 99, 3) := by decide +kernel
theorem dX11_areOne_44 : decode cX11_areOne 44 = .ok (.iconst 4, 1) := by decide +kernel
theorem dX11_areOne_45 : decode cX11_areOne 45 = .ok (.iload_n 1, 1) := by decide +kernel
theorem dX11_areOne_46 : decode cX11_areOne 46 = .ok (.imul, 1) := by decide +kernel
theorem dX11_areOne_47 : decode cX11_areOne 47 = .ok (.iload 5, 2) := by decide +kernel
theorem dX11_areOne_49 : decode cX11_areOne 49 = .ok (.iadd, 1) := by decide +kernel
theorem dX11_areOne_50 : decode cX11_areOne 50 = .ok (.iaload, 1) := by decide +kernel
theorem dX11_areOne_51 : decode cX11_areOne 51 = .ok (.iaload, 1) := by decide +kernel
theorem dX11_areOne_52 : decode cX11_areOne 52 = .ok (.aload_n 0, 1) := by decide +kernel
theorem dX11_areOne_53 : decode cX11_areOne 53 = .ok (.getfield 105, 3) := by decide +kernel
theorem dX11_areOne_56 : decode cX11_areOne 56 = .ok (.aload_n 0, 1) := by decide +kernel
theorem dX11_areOne_57 : decode cX11_areOne 57 = .ok (.getfield 99, 3) := by decide +kernel
theorem dX11_areOne_60 : decode cX11_areOne 60 = .ok (.iconst 4, 1) := by decide +kernel
theorem dX11_areOne_61 : decode cX11_areOne 61 = .ok (.iload_n 2, 1) := by decide +kernel
theorem dX11_areOne_62 : decode cX11_areOne 62 = .ok (.imul, 1) := by decide +kernel
theorem dX11_areOne_63 : decode cX11_areOne 63 = .ok (.iload 5, 2) := by decide +kernel
theorem dX11_areOne_65 : decode cX11_areOne 65 = .ok (.iadd, 1) := by decide +kernel
theorem dX11_areOne_66 : decode cX11_areOne 66 = .ok (.iaload, 1) := by decide +kernel
theorem dX11_areOne_67 : decode cX11_areOne 67 = .ok (.iaload, 1) := by decide +kernel
theorem dX11_areOne_68 : decode cX11_areOne 68 = .ok (.if_icmp .ne 7, 3) := by decide +kernel
theorem dX11_areOne_71 : decode cX11_areOne 71 = .ok (.iconst 1, 1) := by decide +kernel
theorem dX11_areOne_72 : decode cX11_areOne 72 = .ok (.goto 4, 3) := by decide +kernel
theorem dX11_areOne_75 : decode cX11_areOne 75 = .ok (.iconst 0, 1) := by decide +kernel
theorem dX11_areOne_76 : decode cX11_areOne 76 = .ok (.istore 4, 2) := by decide +kernel
theorem dX11_areOne_78 : decode cX11_areOne 78 = .ok (.iinc 5 1, 3) := by decide +kernel
theorem dX11_areOne_81 : decode cX11_areOne 81 = .ok (.goto (-56), 3) := by decide +kernel
theorem dX11_areOne_84 : decode cX11_areOne 84 = .ok (.iload 4, 2) := by decide +kernel
theorem dX11_areOne_86 : decode cX11_areOne 86 = .ok (.ireturn, 1) := by decide +kernel
def f_Model_areOne_b76 (x5 : Int32) (s0 : Int32) (kh : Int32 → Int32 → MI → MJ → Prop) (I : MI) (J : MJ) : Prop :=
  ∀ t78 : Int32, t78 = x5 + 1 → kh s0 t78 I J
def f_Model_areOne_L25 (x1 : Int32) (x2 : Int32) (x3 : Int32) (k84 : Int32 → MI → MJ → Prop) : Nat → Int32 → Int32 → MI → MJ → Prop
  | 0, _, _, _, _ => False
  | nf25 + 1, x4, x5, I, J =>
  (if x3 ≤ x5 then k84 x4 I J else (if x4 = 0 then k84 x4 I J else vp_in ((4 * x1) + x5) 2048 ∧ vp_in (I 207 ((4 * x1) + x5).toNatClampNeg) 512 ∧ vp_in ((4 * x2) + x5) 2048 ∧ vp_in (I 207 ((4 * x2) + x5).toNatClampNeg) 512 ∧ (if (I 209 (I 207 ((4 * x1) + x5).toNatClampNeg).toNatClampNeg) = (I 209 (I 207 ((4 * x2) + x5).toNatClampNeg).toNatClampNeg) then f_Model_areOne_b76 x5 1 (f_Model_areOne_L25 x1 x2 x3 k84 nf25) I J else f_Model_areOne_b76 x5 0 (f_Model_areOne_L25 x1 x2 x3 k84 nf25) I J)))
def f_Model_areOne_b20 (x1 : Int32) (x2 : Int32) (x3 : Int32) (s0 : Int32) (Q : Int32 → MI → MJ → Prop) (I : MI) (J : MJ) : Prop :=
  ∃ n, f_Model_areOne_L25 x1 x2 x3 (fun (z84_x4 : Int32) (I : MI) (J : MJ) => (z84_x4 = 0 ∨ z84_x4 = 1) ∧ Q z84_x4 I J) n s0 0 I J
def f_Model_areOne (x1 : Int32) (x2 : Int32) (x3 : Int32) (I : MI) (J : MJ) (Q : Int32 → MI → MJ → Prop) : Prop :=
  vp_in x1 512 ∧ vp_in x2 512 ∧ (if (I 209 x1.toNatClampNeg) = (I 209 x2.toNatClampNeg) then f_Model_areOne_b20 x1 x2 x3 1 Q I J else f_Model_areOne_b20 x1 x2 x3 0 Q I J)
set_option maxRecDepth 100000 in
set_option maxHeartbeats 4000000 in
theorem w_Model_areOne_b76 {Γ : Ctx} {Q : Int32 → MI → MJ → Prop} {x1 : Int32} {x2 : Int32} {x3 : Int32} {x5 : Int32} {s0 : Int32} {kh : Int32 → Int32 → MI → MJ → Prop} (X : Cx Γ cX11_areOne 6 RX11 0) (Y : Rt Γ (Pi Q) (Option.some Jvm.ClassFile.FieldType.boolean))  (hkh : ∀ (x4 : Int32) (x5 : Int32) (I : MI) (J : MJ), kh x4 x5 I J → Wp Γ 6 25 [(0, .ref (ad Γ 177)), (1, .int x1), (2, .int x2), (3, .int x3), (4, .int x4), (5, .int x5)] [] I J) {I : MI} {J : MJ} (h : f_Model_areOne_b76 x5 s0 kh I J) : Wp Γ 6 76 [(0, .ref (ad Γ 177)), (1, .int x1), (2, .int x2), (3, .int x3), (5, .int x5)] [.int s0] I J := by
  unfold f_Model_areOne_b76 at h
  refine wp_istore (L' := [(4, .int s0), (0, .ref (ad Γ 177)), (1, .int x1), (2, .int x2), (3, .int x3), (5, .int x5)]) X dX11_areOne_76 (by decide) rfl ?_
  obtain ⟨t78, et78⟩ : ∃ y : Int32, y = x5 + 1 := ⟨_, rfl⟩
  have h := h t78 et78
  refine wp_iinc (L' := [(5, .int t78), (4, .int s0), (0, .ref (ad Γ 177)), (1, .int x1), (2, .int x2), (3, .int x3)]) X dX11_areOne_78 5 rfl (ii_1 et78) (by decide) rfl ?_
  refine wp_goto (tgt := 25) X dX11_areOne_81 (by decide) ?_
  refine wp_sub X [2, 3, 4, 5, 1, 0] rfl ?_
  exact hkh _ _ _ _ h

set_option maxRecDepth 100000 in
set_option maxHeartbeats 4000000 in
theorem w_Model_areOne_L25 {Γ : Ctx} {Q : Int32 → MI → MJ → Prop} {x1 : Int32} {x2 : Int32} {x3 : Int32} {k84 : Int32 → MI → MJ → Prop} (X : Cx Γ cX11_areOne 6 RX11 0) (Y : Rt Γ (Pi Q) (Option.some Jvm.ClassFile.FieldType.boolean))  (hk84 : ∀ (x4 : Int32) (I : MI) (J : MJ), k84 x4 I J → Wp Γ 6 84 [(4, .int x4)] [] I J) : ∀ (n : Nat) (x4 : Int32) (x5 : Int32) (I : MI) (J : MJ), f_Model_areOne_L25 x1 x2 x3 k84 n x4 x5 I J → Wp Γ 6 25 [(0, .ref (ad Γ 177)), (1, .int x1), (2, .int x2), (3, .int x3), (4, .int x4), (5, .int x5)] [] I J := by
  intro n
  induction n with
  | zero => intro x4 x5 I J h; exact absurd h (by simp [f_Model_areOne_L25])
  | succ n ih =>
  intro x4 x5 I J h
  unfold f_Model_areOne_L25 at h
  refine wp_iload X dX11_areOne_25 5 rfl ?_
  refine wp_iload_n X dX11_areOne_27 3 rfl ?_
  refine wp_icmp_ge (tgt := 84) X dX11_areOne_28 (by decide) (fun hc => ?_) (fun hc => ?_)
  · have h := ite_t h hc
    refine wp_sub X [4] rfl ?_
    exact hk84 _ _ _ h
  · have h := ite_f h hc
    refine wp_iload X dX11_areOne_31 4 rfl ?_
    refine wp_if_eq (tgt := 84) X dX11_areOne_33 (by decide) (fun hc => ?_) (fun hc => ?_)
    · have h := ite_t h hc
      refine wp_sub X [4] rfl ?_
      exact hk84 _ _ _ h
    · have h := ite_f h hc
      refine wp_aload_n X dX11_areOne_36 0 rfl ?_
      refine gf_X11_105 (o' := 209) X sh_177 rfl dX11_areOne_37 ?_
      refine wp_aload_n X dX11_areOne_40 0 rfl ?_
      refine gf_X11_99 (o' := 207) X sh_177 rfl dX11_areOne_41 ?_
      refine wp_iconst X dX11_areOne_44 ic_4 ?_
      refine wp_iload_n X dX11_areOne_45 1 rfl ?_
      refine wp_imul X dX11_areOne_46 ?_
      refine wp_iload X dX11_areOne_47 5 rfl ?_
      refine wp_iadd X dX11_areOne_49 ?_
      obtain ⟨hb50, h⟩ := h
      refine wp_iald X sh_207 hb50 dX11_areOne_50 ?_
      obtain ⟨hb51, h⟩ := h
      refine wp_iald X sh_209 hb51 dX11_areOne_51 ?_
      refine wp_aload_n X dX11_areOne_52 0 rfl ?_
      refine gf_X11_105 (o' := 209) X sh_177 rfl dX11_areOne_53 ?_
      refine wp_aload_n X dX11_areOne_56 0 rfl ?_
      refine gf_X11_99 (o' := 207) X sh_177 rfl dX11_areOne_57 ?_
      refine wp_iconst X dX11_areOne_60 ic_4 ?_
      refine wp_iload_n X dX11_areOne_61 2 rfl ?_
      refine wp_imul X dX11_areOne_62 ?_
      refine wp_iload X dX11_areOne_63 5 rfl ?_
      refine wp_iadd X dX11_areOne_65 ?_
      obtain ⟨hb66, h⟩ := h
      refine wp_iald X sh_207 hb66 dX11_areOne_66 ?_
      obtain ⟨hb67, h⟩ := h
      refine wp_iald X sh_209 hb67 dX11_areOne_67 ?_
      refine wp_icmp_ne (tgt := 75) X dX11_areOne_68 (by decide) (fun hc => ?_) (fun hc => ?_)
      · have h := ite_f h hc
        refine wp_iconst X dX11_areOne_75 ic_0 ?_
        refine wp_sub X [0, 1, 2, 3, 5] rfl ?_
        exact w_Model_areOne_b76 X Y ih h
      · have h := ite_t h hc
        refine wp_iconst X dX11_areOne_71 ic_1 ?_
        refine wp_goto (tgt := 76) X dX11_areOne_72 (by decide) ?_
        refine wp_sub X [0, 1, 2, 3, 5] rfl ?_
        exact w_Model_areOne_b76 X Y ih h

set_option maxRecDepth 100000 in
set_option maxHeartbeats 4000000 in
theorem w_Model_areOne_b20 {Γ : Ctx} {Q : Int32 → MI → MJ → Prop} {x1 : Int32} {x2 : Int32} {x3 : Int32} {s0 : Int32}  (X : Cx Γ cX11_areOne 6 RX11 0) (Y : Rt Γ (Pi Q) (Option.some Jvm.ClassFile.FieldType.boolean))   {I : MI} {J : MJ} (h : f_Model_areOne_b20 x1 x2 x3 s0 Q I J) : Wp Γ 6 20 [(0, .ref (ad Γ 177)), (1, .int x1), (2, .int x2), (3, .int x3)] [.int s0] I J := by
  unfold f_Model_areOne_b20 at h
  refine wp_istore (L' := [(4, .int s0), (0, .ref (ad Γ 177)), (1, .int x1), (2, .int x2), (3, .int x3)]) X dX11_areOne_20 (by decide) rfl ?_
  refine wp_iconst X dX11_areOne_22 ic_0 ?_
  refine wp_istore (L' := [(5, .int 0), (4, .int s0), (0, .ref (ad Γ 177)), (1, .int x1), (2, .int x2), (3, .int x3)]) X dX11_areOne_23 (by decide) rfl ?_
  obtain ⟨n, h⟩ := h
  refine wp_sub X [2, 3, 4, 5, 1, 0] rfl ?_
  refine w_Model_areOne_L25 X Y  ?_ n _ _ _ _ h
  · intro z84_x4 I J h
    refine wp_iload X dX11_areOne_84 0 rfl ?_
    exact wp_zret X Y dX11_areOne_86 h.1 ⟨_, rfl, h.2⟩

set_option maxRecDepth 100000 in
set_option maxHeartbeats 4000000 in
theorem w_Model_areOne_b0 {Γ : Ctx} {Q : Int32 → MI → MJ → Prop} {x1 : Int32} {x2 : Int32} {x3 : Int32}  (X : Cx Γ cX11_areOne 6 RX11 0) (Y : Rt Γ (Pi Q) (Option.some Jvm.ClassFile.FieldType.boolean))   {I : MI} {J : MJ} (h : f_Model_areOne x1 x2 x3 I J Q) : Wp Γ 6 0 [(0, .ref (ad Γ 177)), (1, .int x1), (2, .int x2), (3, .int x3)] [] I J := by
  unfold f_Model_areOne at h
  refine wp_aload_n X dX11_areOne_0 0 rfl ?_
  refine gf_X11_105 (o' := 209) X sh_177 rfl dX11_areOne_1 ?_
  refine wp_iload_n X dX11_areOne_4 1 rfl ?_
  obtain ⟨hb5, h⟩ := h
  refine wp_iald X sh_209 hb5 dX11_areOne_5 ?_
  refine wp_aload_n X dX11_areOne_6 0 rfl ?_
  refine gf_X11_105 (o' := 209) X sh_177 rfl dX11_areOne_7 ?_
  refine wp_iload_n X dX11_areOne_10 2 rfl ?_
  obtain ⟨hb11, h⟩ := h
  refine wp_iald X sh_209 hb11 dX11_areOne_11 ?_
  refine wp_icmp_ne (tgt := 19) X dX11_areOne_12 (by decide) (fun hc => ?_) (fun hc => ?_)
  · have h := ite_f h hc
    refine wp_iconst X dX11_areOne_19 ic_0 ?_
    exact w_Model_areOne_b20 X Y  h
  · have h := ite_t h hc
    refine wp_iconst X dX11_areOne_15 ic_1 ?_
    refine wp_goto (tgt := 20) X dX11_areOne_16 (by decide) ?_
    exact w_Model_areOne_b20 X Y  h

theorem c_Model_areOne {l : Launch} {g : GE} (hg : Inj g) {I : MI} {J : MJ} {Q : Int32 → MI → MJ → Prop} {x1 : Int32} {x2 : Int32} {x3 : Int32}  (h : f_Model_areOne x1 x2 x3 I J Q) : Cm l g yX11_areOne cX11_areOne 6 (Option.some Jvm.ClassFile.FieldType.boolean) 0 [.ref (g.1 177), .int x1, .int x2, .int x3] I J (Pi Q) := by
  refine Cm.of (As := fun ad => [.ref (ad 177), .int x1, .int x2, .int x3]) hg pn_X11 (Nat.le_of_ble_eq_true rfl) ?_
  exact (fun Γ _ _ X Y => w_Model_areOne_b0 X Y  h)
theorem cv_Model_areOne {Γ : Ctx} {cc : ByteArray} {nL d pc index : Nat} {own : String} {L : List (Nat × Value)} {rest : List Value} {I : MI} {J : MJ} {Q : Int32 → MI → MJ → Prop} {x1 : Int32} {x2 : Int32} {x3 : Int32} (X : Cx Γ cc nL own d) (hd : decode cc pc = .ok (.invokevirtual index, 3)) (hlink : Cond.methodLink own index yX11_areOne ∈ TT)  (h : f_Model_areOne x1 x2 x3 I J Q) (hrest : (rest.map fun v => v.category).sum ≤ 8) (hdd : 0 + 1 ≤ d) (kk : ∀ (r : Int32) (I' : MI) (J' : MJ), Q r I' J' → Wp Γ nL (pc + 3) L (.int r :: rest) I' J') : Wp Γ nL pc L (.int x3 :: .int x2 :: .int x1 :: .ref (ad Γ 177) :: rest) I J :=
  wp_callV (As := [.int x1, .int x2, .int x3]) (rest := rest) (T := TX11) (N := 62) X hd hlink mv_X11_areOne sh_177 (by decide) rfl (c_Model_areOne X.inj  h) rfl rfl hrest hdd (fun v I' J' hv => by obtain ⟨r, rfl, hq⟩ := hv; exact kk r I' J' hq)
theorem dX11_findClasses_0 : decode cX11_findClasses 0 = .ok (.iconst 0, 1) := by decide +kernel
theorem dX11_findClasses_1 : decode cX11_findClasses 1 = .ok (.istore_n 2, 1) := by decide +kernel
theorem dX11_findClasses_2 : decode cX11_findClasses 2 = .ok (.iconst (-1), 1) := by decide +kernel
theorem dX11_findClasses_3 : decode cX11_findClasses 3 = .ok (.istore_n 3, 1) := by decide +kernel
theorem dX11_findClasses_4 : decode cX11_findClasses 4 = .ok (.iconst 0, 1) := by decide +kernel
theorem dX11_findClasses_5 : decode cX11_findClasses 5 = .ok (.istore 4, 2) := by decide +kernel
theorem dX11_findClasses_7 : decode cX11_findClasses 7 = .ok (.iload 4, 2) := by decide +kernel
theorem dX11_findClasses_9 : decode cX11_findClasses 9 = .ok (.aload_n 0, 1) := by decide +kernel
theorem dX11_findClasses_10 : decode cX11_findClasses 10 = .ok (.getfield 303, 3) := by decide +kernel
theorem dX11_findClasses_13 : decode cX11_findClasses 13 = .ok (.if_icmp .ge 31, 3) := by decide +kernel
theorem dX11_findClasses_16 : decode cX11_findClasses 16 = .ok (.aload_n 0, 1) := by decide +kernel
theorem dX11_findClasses_17 : decode cX11_findClasses 17 = .ok (.getfield 105, 3) := by decide +kernel
theorem dX11_findClasses_20 : decode cX11_findClasses 20 = .ok (.iload 4, 2) := by decide +kernel
theorem dX11_findClasses_22 : decode cX11_findClasses 22 = .ok (.aload_n 0, 1) := by decide +kernel
theorem dX11_findClasses_23 : decode cX11_findClasses 23 = .ok (.getfield 102, 3) := by decide +kernel
theorem dX11_findClasses_26 : decode cX11_findClasses 26 = .ok (.iload 4, 2) := by decide +kernel
theorem dX11_findClasses_28 : decode cX11_findClasses 28 = .ok (.baload, 1) := by decide +kernel
theorem dX11_findClasses_29 : decode cX11_findClasses 29 = .ok (.ifCond .eq 7, 3) := by decide +kernel
theorem dX11_findClasses_32 : decode cX11_findClasses 32 = .ok (.iconst 1, 1) := by decide +kernel
theorem dX11_findClasses_33 : decode cX11_findClasses 33 = .ok (.goto 4, 3) := by decide +kernel
theorem dX11_findClasses_36 : decode cX11_findClasses 36 = .ok (.iconst 0, 1) := by decide +kernel
theorem dX11_findClasses_37 : decode cX11_findClasses 37 = .ok (.iastore, 1) := by decide +kernel
theorem dX11_findClasses_38 : decode cX11_findClasses 38 = .ok (.iinc 4 1, 3) := by decide +kernel
theorem dX11_findClasses_41 : decode cX11_findClasses 41 = .ok (.goto (-34), 3) := by decide +kernel
theorem dX11_findClasses_44 : decode cX11_findClasses 44 = .ok (.iconst 0, 1) := by decide +kernel
theorem dX11_findClasses_45 : decode cX11_findClasses 45 = .ok (.istore 4, 2) := by decide +kernel
theorem dX11_findClasses_47 : decode cX11_findClasses 47 = .ok (.iload_n 2, 1) := by decide +kernel
theorem dX11_findClasses_48 : decode cX11_findClasses 48 = .ok (.iload_n 3, 1) := by decide +kernel
theorem dX11_findClasses_49 : decode cX11_findClasses 49 = .ok (.if_icmp .eq 162, 3) := by decide +kernel
theorem dX11_findClasses_52 : decode cX11_findClasses 52 = .ok (.iload_n 2, 1) := by decide +kernel
theorem dX11_findClasses_53 : decode cX11_findClasses 53 = .ok (.bipush 14, 2) := by decide +kernel
theorem dX11_findClasses_55 : decode cX11_findClasses 55 = .ok (.if_icmp .gt 156, 3) := by decide +kernel
theorem dX11_findClasses_58 : decode cX11_findClasses 58 = .ok (.iload 4, 2) := by decide +kernel
theorem dX11_findClasses_60 : decode cX11_findClasses 60 = .ok (.sipush 512, 3) := by decide +kernel
theorem dX11_findClasses_63 : decode cX11_findClasses 63 = .ok (.if_icmp .ge 148, 3) := by decide +kernel
theorem dX11_findClasses_66 : decode cX11_findClasses 66 = .ok (.iload_n 2, 1) := by decide +kernel
theorem dX11_findClasses_67 : decode cX11_findClasses 67 = .ok (.istore_n 3, 1) := by decide +kernel
theorem dX11_findClasses_68 : decode cX11_findClasses 68 = .ok (.iconst 0, 1) := by decide +kernel
theorem dX11_findClasses_69 : decode cX11_findClasses 69 = .ok (.istore_n 2, 1) := by decide +kernel
theorem dX11_findClasses_70 : decode cX11_findClasses 70 = .ok (.iconst 0, 1) := by decide +kernel
theorem dX11_findClasses_71 : decode cX11_findClasses 71 = .ok (.istore 5, 2) := by decide +kernel
theorem dX11_findClasses_73 : decode cX11_findClasses 73 = .ok (.iload 5, 2) := by decide +kernel
theorem dX11_findClasses_75 : decode cX11_findClasses 75 = .ok (.aload_n 0, 1) := by decide +kernel
theorem dX11_findClasses_76 : decode cX11_findClasses 76 = .ok (.getfield 303, 3) := by decide +kernel
theorem dX11_findClasses_79 : decode cX11_findClasses 79 = .ok (.if_icmp .ge 94, 3) := by decide +kernel
theorem dX11_findClasses_82 : decode cX11_findClasses 82 = .ok (.aload_n 0, 1) := by decide +kernel
theorem dX11_findClasses_83 : decode cX11_findClasses 83 = .ok (.getfield 108, 3) := by decide +kernel
theorem dX11_findClasses_86 : decode cX11_findClasses 86 = .ok (.iload 5, 2) := by decide +kernel
theorem dX11_findClasses_88 : decode cX11_findClasses 88 = .ok (.iconst (-1), 1) := by decide +kernel
theorem dX11_findClasses_89 : decode cX11_findClasses 89 = .ok (.iastore, 1) := by decide +kernel
theorem dX11_findClasses_90 : decode cX11_findClasses 90 = .ok (.iconst 0, 1) := by decide +kernel
theorem dX11_findClasses_91 : decode cX11_findClasses 91 = .ok (.istore 6, 2) := by decide +kernel
theorem dX11_findClasses_93 : decode cX11_findClasses 93 = .ok (.iload 6, 2) := by decide +kernel
theorem dX11_findClasses_95 : decode cX11_findClasses 95 = .ok (.iload 5, 2) := by decide +kernel
theorem dX11_findClasses_97 : decode cX11_findClasses 97 = .ok (.if_icmp .ge 49, 3) := by decide +kernel
theorem dX11_findClasses_100 : decode cX11_findClasses 100 = .ok (.aload_n 0, 1) := by decide +kernel
theorem dX11_findClasses_101 : decode cX11_findClasses 101 = .ok (.getfield 108, 3) := by decide +kernel
theorem dX11_findClasses_104 : decode cX11_findClasses 104 = .ok (.iload 5, 2) := by decide +kernel
theorem dX11_findClasses_106 : decode cX11_findClasses 106 = .ok (.iaload, 1) := by decide +kernel
theorem dX11_findClasses_107 : decode cX11_findClasses 107 = .ok (.ifCond .ge 39, 3) := by decide +kernel
theorem dX11_findClasses_110 : decode cX11_findClasses 110 = .ok (.aload_n 0, 1) := by decide +kernel
theorem dX11_findClasses_111 : decode cX11_findClasses 111 = .ok (.getfield 108, 3) := by decide +kernel
theorem dX11_findClasses_114 : decode cX11_findClasses 114 = .ok (.iload 5, 2) := by decide +kernel
theorem dX11_findClasses_116 : decode cX11_findClasses 116 = .ok (.aload_n 0, 1) := by decide +kernel
theorem dX11_findClasses_117 : decode cX11_findClasses 117 = .ok (.iload 5, 2) := by decide +kernel
theorem dX11_findClasses_119 : decode cX11_findClasses 119 = .ok (.iload 6, 2) := by decide +kernel
theorem dX11_findClasses_121 : decode cX11_findClasses 121 = .ok (.iload_n 1, 1) := by decide +kernel
theorem dX11_findClasses_122 : decode cX11_findClasses 122 = .ok (.invokevirtual 320, 3) := by decide +kernel
theorem dX11_findClasses_125 : decode cX11_findClasses 125 = .ok (.ifCond .eq 13, 3) := by decide +kernel
theorem dX11_findClasses_128 : decode cX11_findClasses 128 = .ok (.aload_n 0, 1) := by decide +kernel
theorem dX11_findClasses_129 : decode cX11_findClasses 129 = .ok (.getfield 108, 3) := by decide +kernel
theorem dX11_findClasses_132 : decode cX11_findClasses 132 = .ok (.iload 6, 2) := by decide +kernel
theorem dX11_findClasses_134 : decode cX11_findClasses 134 = .ok (.iaload, 1) := by decide +kernel
theorem dX11_findClasses_135 : decode cX11_findClasses 135 = .ok (.goto 4, 3) := by decide +kernel
theorem dX11_findClasses_138 : decode cX11_findClasses 138 = .ok (.iconst (-1), 1) := by decide +kernel
theorem dX11_findClasses_139 : decode cX11_findClasses 139 = .ok (.iastore, 1) := by decide +kernel
theorem dX11_findClasses_140 : decode cX11_findClasses 140 = .ok (.iinc 6 1, 3) := by decide +kernel
theorem dX11_findClasses_143 : decode cX11_findClasses 143 = .ok (.goto (-50), 3) := by decide +kernel
theorem dX11_findClasses_146 : decode cX11_findClasses 146 = .ok (.aload_n 0, 1) := by decide +kernel
theorem dX11_findClasses_147 : decode cX11_findClasses 147 = .ok (.getfield 108, 3) := by decide +kernel
theorem dX11_findClasses_150 : decode cX11_findClasses 150 = .ok (.iload 5, 2) := by decide +kernel
theorem dX11_findClasses_152 : decode cX11_findClasses 152 = .ok (.iaload, 1) := by decide +kernel
theorem dX11_findClasses_153 : decode cX11_findClasses 153 = .ok (.ifCond .ge 14, 3) := by decide +kernel
theorem dX11_findClasses_156 : decode cX11_findClasses 156 = .ok (.aload_n 0, 1) := by decide +kernel
theorem dX11_findClasses_157 : decode cX11_findClasses 157 = .ok (.getfield 108, 3) := by decide +kernel
theorem dX11_findClasses_160 : decode cX11_findClasses 160 = .ok (.iload 5, 2) := by decide +kernel
theorem dX11_findClasses_162 : decode cX11_findClasses 162 = .ok (.iload_n 2, 1) := by decide +kernel
theorem dX11_findClasses_163 : decode cX11_findClasses 163 = .ok (.iastore, 1) := by decide +kernel
theorem dX11_findClasses_164 : decode cX11_findClasses 164 = .ok (.iinc 2 1, 3) := by decide +kernel
theorem dX11_findClasses_167 : decode cX11_findClasses 167 = .ok (.iinc 5 1, 3) := by decide +kernel
theorem dX11_findClasses_170 : decode cX11_findClasses 170 = .ok (.goto (-97), 3) := by decide +kernel
theorem dX11_findClasses_173 : decode cX11_findClasses 173 = .ok (.iconst 0, 1) := by decide +kernel
theorem dX11_findClasses_174 : decode cX11_findClasses 174 = .ok (.istore 5, 2) := by decide +kernel
theorem dX11_findClasses_176 : decode cX11_findClasses 176 = .ok (.iload 5, 2) := by decide +kernel
theorem dX11_findClasses_178 : decode cX11_findClasses 178 = .ok (.aload_n 0, 1) := by decide +kernel
theorem dX11_findClasses_179 : decode cX11_findClasses 179 = .ok (.getfield 303, 3) := by decide +kernel
theorem dX11_findClasses_182 : decode cX11_findClasses 182 = .ok (.if_icmp .ge 23, 3) := by decide +kernel
theorem dX11_findClasses_185 : decode cX11_findClasses 185 = .ok (.aload_n 0, 1) := by decide +kernel
theorem dX11_findClasses_186 : decode cX11_findClasses 186 = .ok (.getfield 105, 3) := by decide +kernel
theorem dX11_findClasses_189 : decode cX11_findClasses 189 = .ok (.iload 5, 2) := by decide +kernel
theorem dX11_findClasses_191 : decode cX11_findClasses 191 = .ok (.aload_n 0, 1) := by decide +kernel
theorem dX11_findClasses_192 : decode cX11_findClasses 192 = .ok (.getfield 108, 3) := by decide +kernel
theorem dX11_findClasses_195 : decode cX11_findClasses 195 = .ok (.iload 5, 2) := by decide +kernel
theorem dX11_findClasses_197 : decode cX11_findClasses 197 = .ok (.iaload, 1) := by decide +kernel
theorem dX11_findClasses_198 : decode cX11_findClasses 198 = .ok (.iastore, 1) := by decide +kernel
theorem dX11_findClasses_199 : decode cX11_findClasses 199 = .ok (.iinc 5 1, 3) := by decide +kernel
theorem dX11_findClasses_202 : decode cX11_findClasses 202 = .ok (.goto (-26), 3) := by decide +kernel
theorem dX11_findClasses_205 : decode cX11_findClasses 205 = .ok (.iinc 4 1, 3) := by decide +kernel
theorem dX11_findClasses_208 : decode cX11_findClasses 208 = .ok (.goto (-161), 3) := by decide +kernel
theorem dX11_findClasses_211 : decode cX11_findClasses 211 = .ok (.iload_n 2, 1) := by decide +kernel
theorem dX11_findClasses_212 : decode cX11_findClasses 212 = .ok (.ireturn, 1) := by decide +kernel
def f_Model_findClasses_L176 (k205 : MI → MJ → Prop) : Nat → Int32 → MI → MJ → Prop
  | 0, _, _, _ => False
  | nf176 + 1, x5, I, J =>
  (if (I 177 32) ≤ x5 then k205 I J else vp_in x5 512 ∧ vp_in x5 512 ∧ ∀ I198 : MI, I198 = sI I 209 (upd (I 209) x5.toNatClampNeg (I 210 x5.toNatClampNeg)) → ∀ t199 : Int32, t199 = x5 + 1 → f_Model_findClasses_L176 k205 nf176 t199 I198 J)
def f_Model_findClasses_b167 (x2 : Int32) (x5 : Int32) (kh : Int32 → Int32 → MI → MJ → Prop) (I : MI) (J : MJ) : Prop :=
  ∀ t167 : Int32, t167 = x5 + 1 → kh x2 t167 I J
def f_Model_findClasses_b146 (x2 : Int32) (x5 : Int32) (kh : Int32 → Int32 → MI → MJ → Prop) (I : MI) (J : MJ) : Prop :=
  vp_in x5 512 ∧ (if 0 ≤ (I 210 x5.toNatClampNeg) then f_Model_findClasses_b167 x2 x5 kh I J else vp_in x5 512 ∧ ∀ I163 : MI, I163 = sI I 210 (upd (I 210) x5.toNatClampNeg x2) → ∀ t164 : Int32, t164 = x2 + 1 → f_Model_findClasses_b167 t164 x5 kh I163 J)
def f_Model_findClasses_b139 (x6 : Int32) (s1 : Int32) (s2 : Int32) (kh : Int32 → MI → MJ → Prop) (I : MI) (J : MJ) : Prop :=
  vp_in s1 512 ∧ ∀ I139 : MI, I139 = sI I 210 (upd (I 210) s1.toNatClampNeg s2) → ∀ t140 : Int32, t140 = x6 + 1 → kh t140 I139 J
def f_Model_findClasses_L93 (x1 : Int32) (x5 : Int32) (k146 : MI → MJ → Prop) : Nat → Int32 → MI → MJ → Prop
  | 0, _, _, _ => False
  | nf93 + 1, x6, I, J =>
  (if x5 ≤ x6 then k146 I J else vp_in x5 512 ∧ (if 0 ≤ (I 210 x5.toNatClampNeg) then k146 I J else f_Model_areOne x5 x6 x1 I J (fun r122 I122 J122 => (if r122 = 0 then f_Model_findClasses_b139 x6 x5 (-1) (f_Model_findClasses_L93 x1 x5 k146 nf93) I122 J122 else vp_in x6 512 ∧ f_Model_findClasses_b139 x6 x5 (I122 210 x6.toNatClampNeg) (f_Model_findClasses_L93 x1 x5 k146 nf93) I122 J122))))
def f_Model_findClasses_L73 (x1 : Int32) (k173 : Int32 → MI → MJ → Prop) : Nat → Int32 → Int32 → MI → MJ → Prop
  | 0, _, _, _, _ => False
  | nf73 + 1, x2, x5, I, J =>
  (if (I 177 32) ≤ x5 then k173 x2 I J else vp_in x5 512 ∧ ∀ I89 : MI, I89 = sI I 210 (upd (I 210) x5.toNatClampNeg (-1)) → ∃ n, f_Model_findClasses_L93 x1 x5 (fun (I : MI) (J : MJ) => f_Model_findClasses_b146 x2 x5 (f_Model_findClasses_L73 x1 k173 nf73) I J) n 0 I89 J)
def f_Model_findClasses_L47 (x1 : Int32) (k211 : Int32 → MI → MJ → Prop) : Nat → Int32 → Int32 → Int32 → MI → MJ → Prop
  | 0, _, _, _, _, _ => False
  | nf47 + 1, x2, x3, x4, I, J =>
  (if x2 = x3 then k211 x2 I J else (if 14 < x2 then k211 x2 I J else (if 512 ≤ x4 then k211 x2 I J else ∃ n, f_Model_findClasses_L73 x1 (fun (z173_x2 : Int32) (I : MI) (J : MJ) => ∃ n, f_Model_findClasses_L176 (fun (I : MI) (J : MJ) => ∀ t205 : Int32, t205 = x4 + 1 → f_Model_findClasses_L47 x1 k211 nf47 z173_x2 x2 t205 I J) n 0 I J) n 0 0 I J)))
def f_Model_findClasses_b37 (x4 : Int32) (s1 : Int32) (s2 : Int32) (kh : Int32 → MI → MJ → Prop) (I : MI) (J : MJ) : Prop :=
  vp_in s1 512 ∧ ∀ I37 : MI, I37 = sI I 209 (upd (I 209) s1.toNatClampNeg s2) → ∀ t38 : Int32, t38 = x4 + 1 → kh t38 I37 J
def f_Model_findClasses_L7 (k44 : MI → MJ → Prop) : Nat → Int32 → MI → MJ → Prop
  | 0, _, _, _ => False
  | nf7 + 1, x4, I, J =>
  (if (I 177 32) ≤ x4 then k44 I J else vp_in x4 512 ∧ (if (I 208 x4.toNatClampNeg) = 0 then f_Model_findClasses_b37 x4 x4 0 (f_Model_findClasses_L7 k44 nf7) I J else f_Model_findClasses_b37 x4 x4 1 (f_Model_findClasses_L7 k44 nf7) I J))
def f_Model_findClasses (x1 : Int32) (I : MI) (J : MJ) (Q : Int32 → MI → MJ → Prop) : Prop :=
  ∃ n, f_Model_findClasses_L7 (fun (I : MI) (J : MJ) => ∃ n, f_Model_findClasses_L47 x1 (fun (z211_x2 : Int32) (I : MI) (J : MJ) => Q z211_x2 I J) n 0 (-1) 0 I J) n 0 I J
set_option maxRecDepth 100000 in
set_option maxHeartbeats 4000000 in
theorem w_Model_findClasses_L176 {Γ : Ctx} {Q : Int32 → MI → MJ → Prop} {x1 : Int32} {x2 : Int32} {x3 : Int32} {x4 : Int32} {k205 : MI → MJ → Prop} (X : Cx Γ cX11_findClasses 7 RX11 1) (Y : Rt Γ (Pi Q) (Option.some Jvm.ClassFile.FieldType.int))  (hk205 : ∀ (I : MI) (J : MJ), k205 I J → Wp Γ 7 205 [(0, .ref (ad Γ 177)), (1, .int x1), (2, .int x2), (3, .int x3), (4, .int x4)] [] I J) : ∀ (n : Nat) (x5 : Int32) (I : MI) (J : MJ), f_Model_findClasses_L176 k205 n x5 I J → Wp Γ 7 176 [(0, .ref (ad Γ 177)), (1, .int x1), (2, .int x2), (3, .int x3), (4, .int x4), (5, .int x5)] [] I J := by
  intro n
  induction n with
  | zero => intro x5 I J h; exact absurd h (by simp [f_Model_findClasses_L176])
  | succ n ih =>
  intro x5 I J h
  unfold f_Model_findClasses_L176 at h
  refine wp_iload X dX11_findClasses_176 5 rfl ?_
  refine wp_aload_n X dX11_findClasses_178 0 rfl ?_
  refine gf_X11_303 X sh_177 dX11_findClasses_179 ?_
  refine wp_icmp_ge (tgt := 205) X dX11_findClasses_182 (by decide) (fun hc => ?_) (fun hc => ?_)
  · have h := ite_t h hc
    refine wp_sub X [0, 1, 2, 3, 4] rfl ?_
    exact hk205 _ _ h
  · have h := ite_f h hc
    refine wp_aload_n X dX11_findClasses_185 0 rfl ?_
    refine gf_X11_105 (o' := 209) X sh_177 rfl dX11_findClasses_186 ?_
    refine wp_iload X dX11_findClasses_189 5 rfl ?_
    refine wp_aload_n X dX11_findClasses_191 0 rfl ?_
    refine gf_X11_108 (o' := 210) X sh_177 rfl dX11_findClasses_192 ?_
    refine wp_iload X dX11_findClasses_195 5 rfl ?_
    obtain ⟨hb197, h⟩ := h
    refine wp_iald X sh_210 hb197 dX11_findClasses_197 ?_
    obtain ⟨hb198, h⟩ := h
    refine wp_iast X sh_209 hb198 dX11_findClasses_198 ?_
    refine wp_memI (fun I198 eI198 => ?_)
    have h := h I198 eI198
    obtain ⟨t199, et199⟩ : ∃ y : Int32, y = x5 + 1 := ⟨_, rfl⟩
    have h := h t199 et199
    refine wp_iinc (L' := [(5, .int t199), (0, .ref (ad Γ 177)), (1, .int x1), (2, .int x2), (3, .int x3), (4, .int x4)]) X dX11_findClasses_199 5 rfl (ii_1 et199) (by decide) rfl ?_
    refine wp_goto (tgt := 176) X dX11_findClasses_202 (by decide) ?_
    refine wp_sub X [1, 2, 3, 4, 5, 0] rfl ?_
    exact ih _ _ _ h

set_option maxRecDepth 100000 in
set_option maxHeartbeats 4000000 in
theorem w_Model_findClasses_b167 {Γ : Ctx} {Q : Int32 → MI → MJ → Prop} {x1 : Int32} {x2 : Int32} {x3 : Int32} {x4 : Int32} {x5 : Int32} {kh : Int32 → Int32 → MI → MJ → Prop} (X : Cx Γ cX11_findClasses 7 RX11 1) (Y : Rt Γ (Pi Q) (Option.some Jvm.ClassFile.FieldType.int))  (hkh : ∀ (x2 : Int32) (x5 : Int32) (I : MI) (J : MJ), kh x2 x5 I J → Wp Γ 7 73 [(0, .ref (ad Γ 177)), (1, .int x1), (2, .int x2), (3, .int x3), (4, .int x4), (5, .int x5)] [] I J) {I : MI} {J : MJ} (h : f_Model_findClasses_b167 x2 x5 kh I J) : Wp Γ 7 167 [(0, .ref (ad Γ 177)), (1, .int x1), (2, .int x2), (3, .int x3), (4, .int x4), (5, .int x5)] [] I J := by
  unfold f_Model_findClasses_b167 at h
  obtain ⟨t167, et167⟩ : ∃ y : Int32, y = x5 + 1 := ⟨_, rfl⟩
  have h := h t167 et167
  refine wp_iinc (L' := [(5, .int t167), (0, .ref (ad Γ 177)), (1, .int x1), (2, .int x2), (3, .int x3), (4, .int x4)]) X dX11_findClasses_167 5 rfl (ii_1 et167) (by decide) rfl ?_
  refine wp_goto (tgt := 73) X dX11_findClasses_170 (by decide) ?_
  refine wp_sub X [1, 2, 3, 4, 5, 0] rfl ?_
  exact hkh _ _ _ _ h

set_option maxRecDepth 100000 in
set_option maxHeartbeats 4000000 in
theorem w_Model_findClasses_b146 {Γ : Ctx} {Q : Int32 → MI → MJ → Prop} {x1 : Int32} {x2 : Int32} {x3 : Int32} {x4 : Int32} {x5 : Int32} {kh : Int32 → Int32 → MI → MJ → Prop} (X : Cx Γ cX11_findClasses 7 RX11 1) (Y : Rt Γ (Pi Q) (Option.some Jvm.ClassFile.FieldType.int))  (hkh : ∀ (x2 : Int32) (x5 : Int32) (I : MI) (J : MJ), kh x2 x5 I J → Wp Γ 7 73 [(0, .ref (ad Γ 177)), (1, .int x1), (2, .int x2), (3, .int x3), (4, .int x4), (5, .int x5)] [] I J) {I : MI} {J : MJ} (h : f_Model_findClasses_b146 x2 x5 kh I J) : Wp Γ 7 146 [(0, .ref (ad Γ 177)), (1, .int x1), (2, .int x2), (3, .int x3), (4, .int x4), (5, .int x5)] [] I J := by
  unfold f_Model_findClasses_b146 at h
  refine wp_aload_n X dX11_findClasses_146 0 rfl ?_
  refine gf_X11_108 (o' := 210) X sh_177 rfl dX11_findClasses_147 ?_
  refine wp_iload X dX11_findClasses_150 5 rfl ?_
  obtain ⟨hb152, h⟩ := h
  refine wp_iald X sh_210 hb152 dX11_findClasses_152 ?_
  refine wp_if_ge (tgt := 167) X dX11_findClasses_153 (by decide) (fun hc => ?_) (fun hc => ?_)
  · have h := ite_t h hc
    exact w_Model_findClasses_b167 X Y hkh h
  · have h := ite_f h hc
    refine wp_aload_n X dX11_findClasses_156 0 rfl ?_
    refine gf_X11_108 (o' := 210) X sh_177 rfl dX11_findClasses_157 ?_
    refine wp_iload X dX11_findClasses_160 5 rfl ?_
    refine wp_iload_n X dX11_findClasses_162 2 rfl ?_
    obtain ⟨hb163, h⟩ := h
    refine wp_iast X sh_210 hb163 dX11_findClasses_163 ?_
    refine wp_memI (fun I163 eI163 => ?_)
    have h := h I163 eI163
    obtain ⟨t164, et164⟩ : ∃ y : Int32, y = x2 + 1 := ⟨_, rfl⟩
    have h := h t164 et164
    refine wp_iinc (L' := [(2, .int t164), (0, .ref (ad Γ 177)), (1, .int x1), (3, .int x3), (4, .int x4), (5, .int x5)]) X dX11_findClasses_164 2 rfl (ii_1 et164) (by decide) rfl ?_
    refine wp_sub X [1, 2, 0, 3, 4, 5] rfl ?_
    exact w_Model_findClasses_b167 X Y hkh h

set_option maxRecDepth 100000 in
set_option maxHeartbeats 4000000 in
theorem w_Model_findClasses_b139 {Γ : Ctx} {Q : Int32 → MI → MJ → Prop} {x1 : Int32} {x2 : Int32} {x3 : Int32} {x4 : Int32} {x5 : Int32} {x6 : Int32} {s1 : Int32} {s2 : Int32} {kh : Int32 → MI → MJ → Prop} (X : Cx Γ cX11_findClasses 7 RX11 1) (Y : Rt Γ (Pi Q) (Option.some Jvm.ClassFile.FieldType.int))  (hkh : ∀ (x6 : Int32) (I : MI) (J : MJ), kh x6 I J → Wp Γ 7 93 [(0, .ref (ad Γ 177)), (1, .int x1), (2, .int x2), (3, .int x3), (4, .int x4), (5, .int x5), (6, .int x6)] [] I J) {I : MI} {J : MJ} (h : f_Model_findClasses_b139 x6 s1 s2 kh I J) : Wp Γ 7 139 [(0, .ref (ad Γ 177)), (1, .int x1), (2, .int x2), (3, .int x3), (4, .int x4), (5, .int x5), (6, .int x6)] [.int s2, .int s1, .ref (ad Γ 210)] I J := by
  unfold f_Model_findClasses_b139 at h
  obtain ⟨hb139, h⟩ := h
  refine wp_iast X sh_210 hb139 dX11_findClasses_139 ?_
  refine wp_memI (fun I139 eI139 => ?_)
  have h := h I139 eI139
  obtain ⟨t140, et140⟩ : ∃ y : Int32, y = x6 + 1 := ⟨_, rfl⟩
  have h := h t140 et140
  refine wp_iinc (L' := [(6, .int t140), (0, .ref (ad Γ 177)), (1, .int x1), (2, .int x2), (3, .int x3), (4, .int x4), (5, .int x5)]) X dX11_findClasses_140 6 rfl (ii_1 et140) (by decide) rfl ?_
  refine wp_goto (tgt := 93) X dX11_findClasses_143 (by decide) ?_
  refine wp_sub X [1, 2, 3, 4, 5, 6, 0] rfl ?_
  exact hkh _ _ _ h

set_option maxRecDepth 100000 in
set_option maxHeartbeats 4000000 in
theorem w_Model_findClasses_L93 {Γ : Ctx} {Q : Int32 → MI → MJ → Prop} {x1 : Int32} {x2 : Int32} {x3 : Int32} {x4 : Int32} {x5 : Int32} {k146 : MI → MJ → Prop} (X : Cx Γ cX11_findClasses 7 RX11 1) (Y : Rt Γ (Pi Q) (Option.some Jvm.ClassFile.FieldType.int))  (hk146 : ∀ (I : MI) (J : MJ), k146 I J → Wp Γ 7 146 [(0, .ref (ad Γ 177)), (1, .int x1), (2, .int x2), (3, .int x3), (4, .int x4), (5, .int x5)] [] I J) : ∀ (n : Nat) (x6 : Int32) (I : MI) (J : MJ), f_Model_findClasses_L93 x1 x5 k146 n x6 I J → Wp Γ 7 93 [(0, .ref (ad Γ 177)), (1, .int x1), (2, .int x2), (3, .int x3), (4, .int x4), (5, .int x5), (6, .int x6)] [] I J := by
  intro n
  induction n with
  | zero => intro x6 I J h; exact absurd h (by simp [f_Model_findClasses_L93])
  | succ n ih =>
  intro x6 I J h
  unfold f_Model_findClasses_L93 at h
  refine wp_iload X dX11_findClasses_93 6 rfl ?_
  refine wp_iload X dX11_findClasses_95 5 rfl ?_
  refine wp_icmp_ge (tgt := 146) X dX11_findClasses_97 (by decide) (fun hc => ?_) (fun hc => ?_)
  · have h := ite_t h hc
    refine wp_sub X [0, 1, 2, 3, 4, 5] rfl ?_
    exact hk146 _ _ h
  · have h := ite_f h hc
    refine wp_aload_n X dX11_findClasses_100 0 rfl ?_
    refine gf_X11_108 (o' := 210) X sh_177 rfl dX11_findClasses_101 ?_
    refine wp_iload X dX11_findClasses_104 5 rfl ?_
    obtain ⟨hb106, h⟩ := h
    refine wp_iald X sh_210 hb106 dX11_findClasses_106 ?_
    refine wp_if_ge (tgt := 146) X dX11_findClasses_107 (by decide) (fun hc => ?_) (fun hc => ?_)
    · have h := ite_t h hc
      refine wp_sub X [0, 1, 2, 3, 4, 5] rfl ?_
      exact hk146 _ _ h
    · have h := ite_f h hc
      refine wp_aload_n X dX11_findClasses_110 0 rfl ?_
      refine gf_X11_108 (o' := 210) X sh_177 rfl dX11_findClasses_111 ?_
      refine wp_iload X dX11_findClasses_114 5 rfl ?_
      refine wp_aload_n X dX11_findClasses_116 0 rfl ?_
      refine wp_iload X dX11_findClasses_117 5 rfl ?_
      refine wp_iload X dX11_findClasses_119 6 rfl ?_
      refine wp_iload_n X dX11_findClasses_121 1 rfl ?_
      refine cv_Model_areOne X dX11_findClasses_122 ml_X11_320  h (Nat.le_of_ble_eq_true rfl) (by decide) (fun r122 I122 J122 h => ?_)
      refine wp_if_eq (tgt := 138) X dX11_findClasses_125 (by decide) (fun hc => ?_) (fun hc => ?_)
      · have h := ite_t h hc
        refine wp_iconst X dX11_findClasses_138 ic_m1 ?_
        exact w_Model_findClasses_b139 X Y ih h
      · have h := ite_f h hc
        refine wp_aload_n X dX11_findClasses_128 0 rfl ?_
        refine gf_X11_108 (o' := 210) X sh_177 rfl dX11_findClasses_129 ?_
        refine wp_iload X dX11_findClasses_132 6 rfl ?_
        obtain ⟨hb134, h⟩ := h
        refine wp_iald X sh_210 hb134 dX11_findClasses_134 ?_
        refine wp_goto (tgt := 139) X dX11_findClasses_135 (by decide) ?_
        exact w_Model_findClasses_b139 X Y ih h

set_option maxRecDepth 100000 in
set_option maxHeartbeats 4000000 in
theorem w_Model_findClasses_L73 {Γ : Ctx} {Q : Int32 → MI → MJ → Prop} {x1 : Int32} {x3 : Int32} {x4 : Int32} {k173 : Int32 → MI → MJ → Prop} (X : Cx Γ cX11_findClasses 7 RX11 1) (Y : Rt Γ (Pi Q) (Option.some Jvm.ClassFile.FieldType.int))  (hk173 : ∀ (x2 : Int32) (I : MI) (J : MJ), k173 x2 I J → Wp Γ 7 173 [(0, .ref (ad Γ 177)), (1, .int x1), (2, .int x2), (3, .int x3), (4, .int x4)] [] I J) : ∀ (n : Nat) (x2 : Int32) (x5 : Int32) (I : MI) (J : MJ), f_Model_findClasses_L73 x1 k173 n x2 x5 I J → Wp Γ 7 73 [(0, .ref (ad Γ 177)), (1, .int x1), (2, .int x2), (3, .int x3), (4, .int x4), (5, .int x5)] [] I J := by
  intro n
  induction n with
  | zero => intro x2 x5 I J h; exact absurd h (by simp [f_Model_findClasses_L73])
  | succ n ih =>
  intro x2 x5 I J h
  unfold f_Model_findClasses_L73 at h
  refine wp_iload X dX11_findClasses_73 5 rfl ?_
  refine wp_aload_n X dX11_findClasses_75 0 rfl ?_
  refine gf_X11_303 X sh_177 dX11_findClasses_76 ?_
  refine wp_icmp_ge (tgt := 173) X dX11_findClasses_79 (by decide) (fun hc => ?_) (fun hc => ?_)
  · have h := ite_t h hc
    refine wp_sub X [0, 1, 2, 3, 4] rfl ?_
    exact hk173 _ _ _ h
  · have h := ite_f h hc
    refine wp_aload_n X dX11_findClasses_82 0 rfl ?_
    refine gf_X11_108 (o' := 210) X sh_177 rfl dX11_findClasses_83 ?_
    refine wp_iload X dX11_findClasses_86 5 rfl ?_
    refine wp_iconst X dX11_findClasses_88 ic_m1 ?_
    obtain ⟨hb89, h⟩ := h
    refine wp_iast X sh_210 hb89 dX11_findClasses_89 ?_
    refine wp_memI (fun I89 eI89 => ?_)
    have h := h I89 eI89
    refine wp_iconst X dX11_findClasses_90 ic_0 ?_
    refine wp_istore (L' := [(6, .int 0), (0, .ref (ad Γ 177)), (1, .int x1), (2, .int x2), (3, .int x3), (4, .int x4), (5, .int x5)]) X dX11_findClasses_91 (by decide) rfl ?_
    obtain ⟨n, h⟩ := h
    refine wp_sub X [1, 2, 3, 4, 5, 6, 0] rfl ?_
    refine w_Model_findClasses_L93 X Y  ?_ n _ _ _ h
    · intro I J h
      exact w_Model_findClasses_b146 X Y ih h

set_option maxRecDepth 100000 in
set_option maxHeartbeats 4000000 in
theorem w_Model_findClasses_L47 {Γ : Ctx} {Q : Int32 → MI → MJ → Prop} {x1 : Int32} {k211 : Int32 → MI → MJ → Prop} (X : Cx Γ cX11_findClasses 7 RX11 1) (Y : Rt Γ (Pi Q) (Option.some Jvm.ClassFile.FieldType.int))  (hk211 : ∀ (x2 : Int32) (I : MI) (J : MJ), k211 x2 I J → Wp Γ 7 211 [(2, .int x2)] [] I J) : ∀ (n : Nat) (x2 : Int32) (x3 : Int32) (x4 : Int32) (I : MI) (J : MJ), f_Model_findClasses_L47 x1 k211 n x2 x3 x4 I J → Wp Γ 7 47 [(0, .ref (ad Γ 177)), (1, .int x1), (2, .int x2), (3, .int x3), (4, .int x4)] [] I J := by
  intro n
  induction n with
  | zero => intro x2 x3 x4 I J h; exact absurd h (by simp [f_Model_findClasses_L47])
  | succ n ih =>
  intro x2 x3 x4 I J h
  unfold f_Model_findClasses_L47 at h
  refine wp_iload_n X dX11_findClasses_47 2 rfl ?_
  refine wp_iload_n X dX11_findClasses_48 3 rfl ?_
  refine wp_icmp_eq (tgt := 211) X dX11_findClasses_49 (by decide) (fun hc => ?_) (fun hc => ?_)
  · have h := ite_t h hc
    refine wp_sub X [2] rfl ?_
    exact hk211 _ _ _ h
  · have h := ite_f h hc
    refine wp_iload_n X dX11_findClasses_52 2 rfl ?_
    refine wp_bipush X dX11_findClasses_53 bi_14 ?_
    refine wp_icmp_gt (tgt := 211) X dX11_findClasses_55 (by decide) (fun hc => ?_) (fun hc => ?_)
    · have h := ite_t h hc
      refine wp_sub X [2] rfl ?_
      exact hk211 _ _ _ h
    · have h := ite_f h hc
      refine wp_iload X dX11_findClasses_58 4 rfl ?_
      refine wp_sipush X dX11_findClasses_60 si_512 ?_
      refine wp_icmp_ge (tgt := 211) X dX11_findClasses_63 (by decide) (fun hc => ?_) (fun hc => ?_)
      · have h := ite_t h hc
        refine wp_sub X [2] rfl ?_
        exact hk211 _ _ _ h
      · have h := ite_f h hc
        refine wp_iload_n X dX11_findClasses_66 2 rfl ?_
        refine wp_istore_n (L' := [(3, .int x2), (0, .ref (ad Γ 177)), (1, .int x1), (2, .int x2), (4, .int x4)]) X dX11_findClasses_67 rfl (by decide) rfl ?_
        refine wp_iconst X dX11_findClasses_68 ic_0 ?_
        refine wp_istore_n (L' := [(2, .int 0), (3, .int x2), (0, .ref (ad Γ 177)), (1, .int x1), (4, .int x4)]) X dX11_findClasses_69 rfl (by decide) rfl ?_
        refine wp_iconst X dX11_findClasses_70 ic_0 ?_
        refine wp_istore (L' := [(5, .int 0), (2, .int 0), (3, .int x2), (0, .ref (ad Γ 177)), (1, .int x1), (4, .int x4)]) X dX11_findClasses_71 (by decide) rfl ?_
        obtain ⟨n, h⟩ := h
        refine wp_sub X [3, 4, 1, 2, 5, 0] rfl ?_
        refine w_Model_findClasses_L73 X Y  ?_ n _ _ _ _ h
        · intro z173_x2 I J h
          refine wp_iconst X dX11_findClasses_173 ic_0 ?_
          refine wp_istore (L' := [(5, .int 0), (0, .ref (ad Γ 177)), (1, .int x1), (2, .int z173_x2), (3, .int x2), (4, .int x4)]) X dX11_findClasses_174 (by decide) rfl ?_
          obtain ⟨n, h⟩ := h
          refine wp_sub X [1, 2, 3, 4, 5, 0] rfl ?_
          refine w_Model_findClasses_L176 X Y  ?_ n _ _ _ h
          · intro I J h
            obtain ⟨t205, et205⟩ : ∃ y : Int32, y = x4 + 1 := ⟨_, rfl⟩
            have h := h t205 et205
            refine wp_iinc (L' := [(4, .int t205), (0, .ref (ad Γ 177)), (1, .int x1), (2, .int z173_x2), (3, .int x2)]) X dX11_findClasses_205 4 rfl (ii_1 et205) (by decide) rfl ?_
            refine wp_goto (tgt := 47) X dX11_findClasses_208 (by decide) ?_
            refine wp_sub X [1, 2, 3, 4, 0] rfl ?_
            exact ih _ _ _ _ _ h

set_option maxRecDepth 100000 in
set_option maxHeartbeats 4000000 in
theorem w_Model_findClasses_b37 {Γ : Ctx} {Q : Int32 → MI → MJ → Prop} {x1 : Int32} {x2 : Int32} {x3 : Int32} {x4 : Int32} {s1 : Int32} {s2 : Int32} {kh : Int32 → MI → MJ → Prop} (X : Cx Γ cX11_findClasses 7 RX11 1) (Y : Rt Γ (Pi Q) (Option.some Jvm.ClassFile.FieldType.int))  (hkh : ∀ (x4 : Int32) (I : MI) (J : MJ), kh x4 I J → Wp Γ 7 7 [(0, .ref (ad Γ 177)), (1, .int x1), (2, .int x2), (3, .int x3), (4, .int x4)] [] I J) {I : MI} {J : MJ} (h : f_Model_findClasses_b37 x4 s1 s2 kh I J) : Wp Γ 7 37 [(0, .ref (ad Γ 177)), (1, .int x1), (2, .int x2), (3, .int x3), (4, .int x4)] [.int s2, .int s1, .ref (ad Γ 209)] I J := by
  unfold f_Model_findClasses_b37 at h
  obtain ⟨hb37, h⟩ := h
  refine wp_iast X sh_209 hb37 dX11_findClasses_37 ?_
  refine wp_memI (fun I37 eI37 => ?_)
  have h := h I37 eI37
  obtain ⟨t38, et38⟩ : ∃ y : Int32, y = x4 + 1 := ⟨_, rfl⟩
  have h := h t38 et38
  refine wp_iinc (L' := [(4, .int t38), (0, .ref (ad Γ 177)), (1, .int x1), (2, .int x2), (3, .int x3)]) X dX11_findClasses_38 4 rfl (ii_1 et38) (by decide) rfl ?_
  refine wp_goto (tgt := 7) X dX11_findClasses_41 (by decide) ?_
  refine wp_sub X [1, 2, 3, 4, 0] rfl ?_
  exact hkh _ _ _ h

set_option maxRecDepth 100000 in
set_option maxHeartbeats 4000000 in
theorem w_Model_findClasses_L7 {Γ : Ctx} {Q : Int32 → MI → MJ → Prop} {x1 : Int32} {x2 : Int32} {x3 : Int32} {k44 : MI → MJ → Prop} (X : Cx Γ cX11_findClasses 7 RX11 1) (Y : Rt Γ (Pi Q) (Option.some Jvm.ClassFile.FieldType.int))  (hk44 : ∀ (I : MI) (J : MJ), k44 I J → Wp Γ 7 44 [(0, .ref (ad Γ 177)), (1, .int x1), (2, .int x2), (3, .int x3)] [] I J) : ∀ (n : Nat) (x4 : Int32) (I : MI) (J : MJ), f_Model_findClasses_L7 k44 n x4 I J → Wp Γ 7 7 [(0, .ref (ad Γ 177)), (1, .int x1), (2, .int x2), (3, .int x3), (4, .int x4)] [] I J := by
  intro n
  induction n with
  | zero => intro x4 I J h; exact absurd h (by simp [f_Model_findClasses_L7])
  | succ n ih =>
  intro x4 I J h
  unfold f_Model_findClasses_L7 at h
  refine wp_iload X dX11_findClasses_7 4 rfl ?_
  refine wp_aload_n X dX11_findClasses_9 0 rfl ?_
  refine gf_X11_303 X sh_177 dX11_findClasses_10 ?_
  refine wp_icmp_ge (tgt := 44) X dX11_findClasses_13 (by decide) (fun hc => ?_) (fun hc => ?_)
  · have h := ite_t h hc
    refine wp_sub X [0, 1, 2, 3] rfl ?_
    exact hk44 _ _ h
  · have h := ite_f h hc
    refine wp_aload_n X dX11_findClasses_16 0 rfl ?_
    refine gf_X11_105 (o' := 209) X sh_177 rfl dX11_findClasses_17 ?_
    refine wp_iload X dX11_findClasses_20 4 rfl ?_
    refine wp_aload_n X dX11_findClasses_22 0 rfl ?_
    refine gf_X11_102 (o' := 208) X sh_177 rfl dX11_findClasses_23 ?_
    refine wp_iload X dX11_findClasses_26 4 rfl ?_
    obtain ⟨hb28, h⟩ := h
    refine wp_zald X sh_208 hb28 dX11_findClasses_28 ?_
    refine wp_if_eq (tgt := 36) X dX11_findClasses_29 (by decide) (fun hc => ?_) (fun hc => ?_)
    · have h := ite_t h hc
      refine wp_iconst X dX11_findClasses_36 ic_0 ?_
      exact w_Model_findClasses_b37 X Y ih h
    · have h := ite_f h hc
      refine wp_iconst X dX11_findClasses_32 ic_1 ?_
      refine wp_goto (tgt := 37) X dX11_findClasses_33 (by decide) ?_
      exact w_Model_findClasses_b37 X Y ih h

set_option maxRecDepth 100000 in
set_option maxHeartbeats 4000000 in
theorem w_Model_findClasses_b0 {Γ : Ctx} {Q : Int32 → MI → MJ → Prop} {x1 : Int32}  (X : Cx Γ cX11_findClasses 7 RX11 1) (Y : Rt Γ (Pi Q) (Option.some Jvm.ClassFile.FieldType.int))   {I : MI} {J : MJ} (h : f_Model_findClasses x1 I J Q) : Wp Γ 7 0 [(0, .ref (ad Γ 177)), (1, .int x1)] [] I J := by
  unfold f_Model_findClasses at h
  refine wp_iconst X dX11_findClasses_0 ic_0 ?_
  refine wp_istore_n (L' := [(2, .int 0), (0, .ref (ad Γ 177)), (1, .int x1)]) X dX11_findClasses_1 rfl (by decide) rfl ?_
  refine wp_iconst X dX11_findClasses_2 ic_m1 ?_
  refine wp_istore_n (L' := [(3, .int (-1)), (2, .int 0), (0, .ref (ad Γ 177)), (1, .int x1)]) X dX11_findClasses_3 rfl (by decide) rfl ?_
  refine wp_iconst X dX11_findClasses_4 ic_0 ?_
  refine wp_istore (L' := [(4, .int 0), (3, .int (-1)), (2, .int 0), (0, .ref (ad Γ 177)), (1, .int x1)]) X dX11_findClasses_5 (by decide) rfl ?_
  obtain ⟨n, h⟩ := h
  refine wp_sub X [3, 4, 2, 1, 0] rfl ?_
  refine w_Model_findClasses_L7 X Y  ?_ n _ _ _ h
  · intro I J h
    refine wp_iconst X dX11_findClasses_44 ic_0 ?_
    refine wp_istore (L' := [(4, .int 0), (0, .ref (ad Γ 177)), (1, .int x1), (2, .int 0), (3, .int (-1))]) X dX11_findClasses_45 (by decide) rfl ?_
    obtain ⟨n, h⟩ := h
    refine wp_sub X [1, 2, 3, 4, 0] rfl ?_
    refine w_Model_findClasses_L47 X Y  ?_ n _ _ _ _ _ h
    · intro z211_x2 I J h
      refine wp_iload_n X dX11_findClasses_211 0 rfl ?_
      exact wp_iret X Y dX11_findClasses_212 ⟨_, rfl, h⟩

theorem c_Model_findClasses {l : Launch} {g : GE} (hg : Inj g) {I : MI} {J : MJ} {Q : Int32 → MI → MJ → Prop} {x1 : Int32}  (h : f_Model_findClasses x1 I J Q) : Cm l g yX11_findClasses cX11_findClasses 7 (Option.some Jvm.ClassFile.FieldType.int) 1 [.ref (g.1 177), .int x1] I J (Pi Q) := by
  refine Cm.of (As := fun ad => [.ref (ad 177), .int x1]) hg pn_X11 (Nat.le_of_ble_eq_true rfl) ?_
  exact (fun Γ _ _ X Y => w_Model_findClasses_b0 X Y  h)
theorem cv_Model_findClasses {Γ : Ctx} {cc : ByteArray} {nL d pc index : Nat} {own : String} {L : List (Nat × Value)} {rest : List Value} {I : MI} {J : MJ} {Q : Int32 → MI → MJ → Prop} {x1 : Int32} (X : Cx Γ cc nL own d) (hd : decode cc pc = .ok (.invokevirtual index, 3)) (hlink : Cond.methodLink own index yX11_findClasses ∈ TT)  (h : f_Model_findClasses x1 I J Q) (hrest : (rest.map fun v => v.category).sum ≤ 8) (hdd : 1 + 1 ≤ d) (kk : ∀ (r : Int32) (I' : MI) (J' : MJ), Q r I' J' → Wp Γ nL (pc + 3) L (.int r :: rest) I' J') : Wp Γ nL pc L (.int x1 :: .ref (ad Γ 177) :: rest) I J :=
  wp_callV (As := [.int x1]) (rest := rest) (T := TX11) (N := 62) X hd hlink mv_X11_findClasses sh_177 (by decide) rfl (c_Model_findClasses X.inj  h) rfl rfl hrest hdd (fun v I' J' hv => by obtain ⟨r, rfl, hq⟩ := hv; exact kk r I' J' hq)
theorem dX11_isAbove_0 : decode cX11_isAbove 0 = .ok (.iconst 0, 1) := by decide +kernel
theorem dX11_isAbove_1 : decode cX11_isAbove 1 = .ok (.istore_n 2, 1) := by decide +kernel
theorem dX11_isAbove_2 : decode cX11_isAbove 2 = .ok (.iconst 0, 1) := by decide +kernel
theorem dX11_isAbove_3 : decode cX11_isAbove 3 = .ok (.istore_n 3, 1) := by decide +kernel
theorem dX11_isAbove_4 : decode cX11_isAbove 4 = .ok (.iload_n 3, 1) := by decide +kernel
theorem dX11_isAbove_5 : decode cX11_isAbove 5 = .ok (.aload_n 0, 1) := by decide +kernel
theorem dX11_isAbove_6 : decode cX11_isAbove 6 = .ok (.getfield 33, 3) := by decide +kernel
theorem dX11_isAbove_9 : decode cX11_isAbove 9 = .ok (.iload_n 1, 1) := by decide +kernel
theorem dX11_isAbove_10 : decode cX11_isAbove 10 = .ok (.iaload, 1) := by decide +kernel
theorem dX11_isAbove_11 : decode cX11_isAbove 11 = .ok (.if_icmp .ge 34, 3) := by decide +kernel
theorem dX11_isAbove_14 : decode cX11_isAbove 14 = .ok (.iload_n 2, 1) := by decide +kernel
theorem dX11_isAbove_15 : decode cX11_isAbove 15 = .ok (.ifCond .ne 18, 3) := by decide +kernel
theorem dX11_isAbove_18 : decode cX11_isAbove 18 = .ok (.aload_n 0, 1) := by decide +kernel
theorem dX11_isAbove_19 : decode cX11_isAbove 19 = .ok (.getfield 39, 3) := by decide +kernel
theorem dX11_isAbove_22 : decode cX11_isAbove 22 = .ok (.bipush 14, 2) := by decide +kernel
theorem dX11_isAbove_24 : decode cX11_isAbove 24 = .ok (.iload_n 1, 1) := by decide +kernel
theorem dX11_isAbove_25 : decode cX11_isAbove 25 = .ok (.imul, 1) := by decide +kernel
theorem dX11_isAbove_26 : decode cX11_isAbove 26 = .ok (.iload_n 3, 1) := by decide +kernel
theorem dX11_isAbove_27 : decode cX11_isAbove 27 = .ok (.iadd, 1) := by decide +kernel
theorem dX11_isAbove_28 : decode cX11_isAbove 28 = .ok (.iaload, 1) := by decide +kernel
theorem dX11_isAbove_29 : decode cX11_isAbove 29 = .ok (.iconst 1, 1) := by decide +kernel
theorem dX11_isAbove_30 : decode cX11_isAbove 30 = .ok (.if_icmp .le 7, 3) := by decide +kernel
theorem dX11_isAbove_33 : decode cX11_isAbove 33 = .ok (.iconst 1, 1) := by decide +kernel
theorem dX11_isAbove_34 : decode cX11_isAbove 34 = .ok (.goto 4, 3) := by decide +kernel
theorem dX11_isAbove_37 : decode cX11_isAbove 37 = .ok (.iconst 0, 1) := by decide +kernel
theorem dX11_isAbove_38 : decode cX11_isAbove 38 = .ok (.istore_n 2, 1) := by decide +kernel
theorem dX11_isAbove_39 : decode cX11_isAbove 39 = .ok (.iinc 3 1, 3) := by decide +kernel
theorem dX11_isAbove_42 : decode cX11_isAbove 42 = .ok (.goto (-38), 3) := by decide +kernel
theorem dX11_isAbove_45 : decode cX11_isAbove 45 = .ok (.iload_n 2, 1) := by decide +kernel
theorem dX11_isAbove_46 : decode cX11_isAbove 46 = .ok (.ireturn, 1) := by decide +kernel
def f_Model_isAbove_b38 (x3 : Int32) (s0 : Int32) (kh : Int32 → Int32 → MI → MJ → Prop) (I : MI) (J : MJ) : Prop :=
  ∀ t39 : Int32, t39 = x3 + 1 → kh s0 t39 I J
def f_Model_isAbove_b33 (x3 : Int32) (kh : Int32 → Int32 → MI → MJ → Prop) (I : MI) (J : MJ) : Prop :=
  f_Model_isAbove_b38 x3 1 kh I J
def f_Model_isAbove_L4 (x1 : Int32) (k45 : Int32 → MI → MJ → Prop) : Nat → Int32 → Int32 → MI → MJ → Prop
  | 0, _, _, _, _ => False
  | nf4 + 1, x2, x3, I, J =>
  vp_in x1 20 ∧ (if (I 185 x1.toNatClampNeg) ≤ x3 then k45 x2 I J else (if x2 = 0 then vp_in ((14 * x1) + x3) 280 ∧ (if (I 187 ((14 * x1) + x3).toNatClampNeg) ≤ 1 then f_Model_isAbove_b38 x3 0 (f_Model_isAbove_L4 x1 k45 nf4) I J else f_Model_isAbove_b33 x3 (f_Model_isAbove_L4 x1 k45 nf4) I J) else f_Model_isAbove_b33 x3 (f_Model_isAbove_L4 x1 k45 nf4) I J))
def f_Model_isAbove (x1 : Int32) (I : MI) (J : MJ) (Q : Int32 → MI → MJ → Prop) : Prop :=
  ∃ n, f_Model_isAbove_L4 x1 (fun (z45_x2 : Int32) (I : MI) (J : MJ) => (z45_x2 = 0 ∨ z45_x2 = 1) ∧ Q z45_x2 I J) n 0 0 I J
set_option maxRecDepth 100000 in
set_option maxHeartbeats 4000000 in
theorem w_Model_isAbove_b38 {Γ : Ctx} {Q : Int32 → MI → MJ → Prop} {x1 : Int32} {x3 : Int32} {s0 : Int32} {kh : Int32 → Int32 → MI → MJ → Prop} (X : Cx Γ cX11_isAbove 4 RX11 0) (Y : Rt Γ (Pi Q) (Option.some Jvm.ClassFile.FieldType.boolean))  (hkh : ∀ (x2 : Int32) (x3 : Int32) (I : MI) (J : MJ), kh x2 x3 I J → Wp Γ 4 4 [(0, .ref (ad Γ 177)), (1, .int x1), (2, .int x2), (3, .int x3)] [] I J) {I : MI} {J : MJ} (h : f_Model_isAbove_b38 x3 s0 kh I J) : Wp Γ 4 38 [(0, .ref (ad Γ 177)), (1, .int x1), (3, .int x3)] [.int s0] I J := by
  unfold f_Model_isAbove_b38 at h
  refine wp_istore_n (L' := [(2, .int s0), (0, .ref (ad Γ 177)), (1, .int x1), (3, .int x3)]) X dX11_isAbove_38 rfl (by decide) rfl ?_
  obtain ⟨t39, et39⟩ : ∃ y : Int32, y = x3 + 1 := ⟨_, rfl⟩
  have h := h t39 et39
  refine wp_iinc (L' := [(3, .int t39), (2, .int s0), (0, .ref (ad Γ 177)), (1, .int x1)]) X dX11_isAbove_39 3 rfl (ii_1 et39) (by decide) rfl ?_
  refine wp_goto (tgt := 4) X dX11_isAbove_42 (by decide) ?_
  refine wp_sub X [2, 3, 1, 0] rfl ?_
  exact hkh _ _ _ _ h

set_option maxRecDepth 100000 in
set_option maxHeartbeats 4000000 in
theorem w_Model_isAbove_b33 {Γ : Ctx} {Q : Int32 → MI → MJ → Prop} {x1 : Int32} {x3 : Int32} {kh : Int32 → Int32 → MI → MJ → Prop} (X : Cx Γ cX11_isAbove 4 RX11 0) (Y : Rt Γ (Pi Q) (Option.some Jvm.ClassFile.FieldType.boolean))  (hkh : ∀ (x2 : Int32) (x3 : Int32) (I : MI) (J : MJ), kh x2 x3 I J → Wp Γ 4 4 [(0, .ref (ad Γ 177)), (1, .int x1), (2, .int x2), (3, .int x3)] [] I J) {I : MI} {J : MJ} (h : f_Model_isAbove_b33 x3 kh I J) : Wp Γ 4 33 [(0, .ref (ad Γ 177)), (1, .int x1), (3, .int x3)] [] I J := by
  unfold f_Model_isAbove_b33 at h
  refine wp_iconst X dX11_isAbove_33 ic_1 ?_
  refine wp_goto (tgt := 38) X dX11_isAbove_34 (by decide) ?_
  exact w_Model_isAbove_b38 X Y hkh h

set_option maxRecDepth 100000 in
set_option maxHeartbeats 4000000 in
theorem w_Model_isAbove_L4 {Γ : Ctx} {Q : Int32 → MI → MJ → Prop} {x1 : Int32} {k45 : Int32 → MI → MJ → Prop} (X : Cx Γ cX11_isAbove 4 RX11 0) (Y : Rt Γ (Pi Q) (Option.some Jvm.ClassFile.FieldType.boolean))  (hk45 : ∀ (x2 : Int32) (I : MI) (J : MJ), k45 x2 I J → Wp Γ 4 45 [(2, .int x2)] [] I J) : ∀ (n : Nat) (x2 : Int32) (x3 : Int32) (I : MI) (J : MJ), f_Model_isAbove_L4 x1 k45 n x2 x3 I J → Wp Γ 4 4 [(0, .ref (ad Γ 177)), (1, .int x1), (2, .int x2), (3, .int x3)] [] I J := by
  intro n
  induction n with
  | zero => intro x2 x3 I J h; exact absurd h (by simp [f_Model_isAbove_L4])
  | succ n ih =>
  intro x2 x3 I J h
  unfold f_Model_isAbove_L4 at h
  refine wp_iload_n X dX11_isAbove_4 3 rfl ?_
  refine wp_aload_n X dX11_isAbove_5 0 rfl ?_
  refine gf_X11_33 (o' := 185) X sh_177 rfl dX11_isAbove_6 ?_
  refine wp_iload_n X dX11_isAbove_9 1 rfl ?_
  obtain ⟨hb10, h⟩ := h
  refine wp_iald X sh_185 hb10 dX11_isAbove_10 ?_
  refine wp_icmp_ge (tgt := 45) X dX11_isAbove_11 (by decide) (fun hc => ?_) (fun hc => ?_)
  · have h := ite_t h hc
    refine wp_sub X [2] rfl ?_
    exact hk45 _ _ _ h
  · have h := ite_f h hc
    refine wp_iload_n X dX11_isAbove_14 2 rfl ?_
    refine wp_if_ne (tgt := 33) X dX11_isAbove_15 (by decide) (fun hc => ?_) (fun hc => ?_)
    · have h := ite_f h hc
      refine wp_sub X [0, 1, 3] rfl ?_
      exact w_Model_isAbove_b33 X Y ih h
    · have h := ite_t h hc
      refine wp_aload_n X dX11_isAbove_18 0 rfl ?_
      refine gf_X11_39 (o' := 187) X sh_177 rfl dX11_isAbove_19 ?_
      refine wp_bipush X dX11_isAbove_22 bi_14 ?_
      refine wp_iload_n X dX11_isAbove_24 1 rfl ?_
      refine wp_imul X dX11_isAbove_25 ?_
      refine wp_iload_n X dX11_isAbove_26 3 rfl ?_
      refine wp_iadd X dX11_isAbove_27 ?_
      obtain ⟨hb28, h⟩ := h
      refine wp_iald X sh_187 hb28 dX11_isAbove_28 ?_
      refine wp_iconst X dX11_isAbove_29 ic_1 ?_
      refine wp_icmp_le (tgt := 37) X dX11_isAbove_30 (by decide) (fun hc => ?_) (fun hc => ?_)
      · have h := ite_t h hc
        refine wp_iconst X dX11_isAbove_37 ic_0 ?_
        refine wp_sub X [0, 1, 3] rfl ?_
        exact w_Model_isAbove_b38 X Y ih h
      · have h := ite_f h hc
        refine wp_sub X [0, 1, 3] rfl ?_
        exact w_Model_isAbove_b33 X Y ih h

set_option maxRecDepth 100000 in
set_option maxHeartbeats 4000000 in
theorem w_Model_isAbove_b0 {Γ : Ctx} {Q : Int32 → MI → MJ → Prop} {x1 : Int32}  (X : Cx Γ cX11_isAbove 4 RX11 0) (Y : Rt Γ (Pi Q) (Option.some Jvm.ClassFile.FieldType.boolean))   {I : MI} {J : MJ} (h : f_Model_isAbove x1 I J Q) : Wp Γ 4 0 [(0, .ref (ad Γ 177)), (1, .int x1)] [] I J := by
  unfold f_Model_isAbove at h
  refine wp_iconst X dX11_isAbove_0 ic_0 ?_
  refine wp_istore_n (L' := [(2, .int 0), (0, .ref (ad Γ 177)), (1, .int x1)]) X dX11_isAbove_1 rfl (by decide) rfl ?_
  refine wp_iconst X dX11_isAbove_2 ic_0 ?_
  refine wp_istore_n (L' := [(3, .int 0), (2, .int 0), (0, .ref (ad Γ 177)), (1, .int x1)]) X dX11_isAbove_3 rfl (by decide) rfl ?_
  obtain ⟨n, h⟩ := h
  refine wp_sub X [2, 3, 1, 0] rfl ?_
  refine w_Model_isAbove_L4 X Y  ?_ n _ _ _ _ h
  · intro z45_x2 I J h
    refine wp_iload_n X dX11_isAbove_45 0 rfl ?_
    exact wp_zret X Y dX11_isAbove_46 h.1 ⟨_, rfl, h.2⟩

theorem c_Model_isAbove {l : Launch} {g : GE} (hg : Inj g) {I : MI} {J : MJ} {Q : Int32 → MI → MJ → Prop} {x1 : Int32}  (h : f_Model_isAbove x1 I J Q) : Cm l g yX11_isAbove cX11_isAbove 4 (Option.some Jvm.ClassFile.FieldType.boolean) 0 [.ref (g.1 177), .int x1] I J (Pi Q) := by
  refine Cm.of (As := fun ad => [.ref (ad 177), .int x1]) hg pn_X11 (Nat.le_of_ble_eq_true rfl) ?_
  exact (fun Γ _ _ X Y => w_Model_isAbove_b0 X Y  h)
theorem cv_Model_isAbove {Γ : Ctx} {cc : ByteArray} {nL d pc index : Nat} {own : String} {L : List (Nat × Value)} {rest : List Value} {I : MI} {J : MJ} {Q : Int32 → MI → MJ → Prop} {x1 : Int32} (X : Cx Γ cc nL own d) (hd : decode cc pc = .ok (.invokevirtual index, 3)) (hlink : Cond.methodLink own index yX11_isAbove ∈ TT)  (h : f_Model_isAbove x1 I J Q) (hrest : (rest.map fun v => v.category).sum ≤ 8) (hdd : 0 + 1 ≤ d) (kk : ∀ (r : Int32) (I' : MI) (J' : MJ), Q r I' J' → Wp Γ nL (pc + 3) L (.int r :: rest) I' J') : Wp Γ nL pc L (.int x1 :: .ref (ad Γ 177) :: rest) I J :=
  wp_callV (As := [.int x1]) (rest := rest) (T := TX11) (N := 62) X hd hlink mv_X11_isAbove sh_177 (by decide) rfl (c_Model_isAbove X.inj  h) rfl rfl hrest hdd (fun v I' J' hv => by obtain ⟨r, rfl, hq⟩ := hv; exact kk r I' J' hq)
theorem dX11_joinedAt_0 : decode cX11_joinedAt 0 = .ok (.aload_n 0, 1) := by decide +kernel
theorem dX11_joinedAt_1 : decode cX11_joinedAt 1 = .ok (.iload_n 1, 1) := by decide +kernel
theorem dX11_joinedAt_2 : decode cX11_joinedAt 2 = .ok (.iconst 0, 1) := by decide +kernel
theorem dX11_joinedAt_3 : decode cX11_joinedAt 3 = .ok (.iload_n 2, 1) := by decide +kernel
theorem dX11_joinedAt_4 : decode cX11_joinedAt 4 = .ok (.iload_n 3, 1) := by decide +kernel
theorem dX11_joinedAt_5 : decode cX11_joinedAt 5 = .ok (.invokevirtual 209, 3) := by decide +kernel
theorem dX11_joinedAt_8 : decode cX11_joinedAt 8 = .ok (.iconst 0, 1) := by decide +kernel
theorem dX11_joinedAt_9 : decode cX11_joinedAt 9 = .ok (.istore 4, 2) := by decide +kernel
theorem dX11_joinedAt_11 : decode cX11_joinedAt 11 = .ok (.iload 4, 2) := by decide +kernel
theorem dX11_joinedAt_13 : decode cX11_joinedAt 13 = .ok (.aload_n 0, 1) := by decide +kernel
theorem dX11_joinedAt_14 : decode cX11_joinedAt 14 = .ok (.getfield 303, 3) := by decide +kernel
theorem dX11_joinedAt_17 : decode cX11_joinedAt 17 = .ok (.if_icmp .ge 90, 3) := by decide +kernel
theorem dX11_joinedAt_20 : decode cX11_joinedAt 20 = .ok (.aload_n 0, 1) := by decide +kernel
theorem dX11_joinedAt_21 : decode cX11_joinedAt 21 = .ok (.getfield 105, 3) := by decide +kernel
theorem dX11_joinedAt_24 : decode cX11_joinedAt 24 = .ok (.iload 4, 2) := by decide +kernel
theorem dX11_joinedAt_26 : decode cX11_joinedAt 26 = .ok (.iaload, 1) := by decide +kernel
theorem dX11_joinedAt_27 : decode cX11_joinedAt 27 = .ok (.istore 5, 2) := by decide +kernel
theorem dX11_joinedAt_29 : decode cX11_joinedAt 29 = .ok (.aload_n 0, 1) := by decide +kernel
theorem dX11_joinedAt_30 : decode cX11_joinedAt 30 = .ok (.getfield 39, 3) := by decide +kernel
theorem dX11_joinedAt_33 : decode cX11_joinedAt 33 = .ok (.bipush 14, 2) := by decide +kernel
theorem dX11_joinedAt_35 : decode cX11_joinedAt 35 = .ok (.iload_n 1, 1) := by decide +kernel
theorem dX11_joinedAt_36 : decode cX11_joinedAt 36 = .ok (.imul, 1) := by decide +kernel
theorem dX11_joinedAt_37 : decode cX11_joinedAt 37 = .ok (.iload 5, 2) := by decide +kernel
theorem dX11_joinedAt_39 : decode cX11_joinedAt 39 = .ok (.iadd, 1) := by decide +kernel
theorem dX11_joinedAt_40 : decode cX11_joinedAt 40 = .ok (.aload_n 0, 1) := by decide +kernel
theorem dX11_joinedAt_41 : decode cX11_joinedAt 41 = .ok (.getfield 102, 3) := by decide +kernel
theorem dX11_joinedAt_44 : decode cX11_joinedAt 44 = .ok (.iload 4, 2) := by decide +kernel
theorem dX11_joinedAt_46 : decode cX11_joinedAt 46 = .ok (.baload, 1) := by decide +kernel
theorem dX11_joinedAt_47 : decode cX11_joinedAt 47 = .ok (.ifCond .eq 7, 3) := by decide +kernel
theorem dX11_joinedAt_50 : decode cX11_joinedAt 50 = .ok (.iconst 1, 1) := by decide +kernel
theorem dX11_joinedAt_51 : decode cX11_joinedAt 51 = .ok (.goto 4, 3) := by decide +kernel
theorem dX11_joinedAt_54 : decode cX11_joinedAt 54 = .ok (.iconst 0, 1) := by decide +kernel
theorem dX11_joinedAt_55 : decode cX11_joinedAt 55 = .ok (.iastore, 1) := by decide +kernel
theorem dX11_joinedAt_56 : decode cX11_joinedAt 56 = .ok (.iconst 0, 1) := by decide +kernel
theorem dX11_joinedAt_57 : decode cX11_joinedAt 57 = .ok (.istore 6, 2) := by decide +kernel
theorem dX11_joinedAt_59 : decode cX11_joinedAt 59 = .ok (.iload 6, 2) := by decide +kernel
theorem dX11_joinedAt_61 : decode cX11_joinedAt 61 = .ok (.iload_n 3, 1) := by decide +kernel
theorem dX11_joinedAt_62 : decode cX11_joinedAt 62 = .ok (.if_icmp .ge 39, 3) := by decide +kernel
theorem dX11_joinedAt_65 : decode cX11_joinedAt 65 = .ok (.aload_n 0, 1) := by decide +kernel
theorem dX11_joinedAt_66 : decode cX11_joinedAt 66 = .ok (.getfield 45, 3) := by decide +kernel
theorem dX11_joinedAt_69 : decode cX11_joinedAt 69 = .ok (.iload_n 1, 1) := by decide +kernel
theorem dX11_joinedAt_70 : decode cX11_joinedAt 70 = .ok (.iload 5, 2) := by decide +kernel
theorem dX11_joinedAt_72 : decode cX11_joinedAt 72 = .ok (.iload 6, 2) := by decide +kernel
theorem dX11_joinedAt_74 : decode cX11_joinedAt 74 = .ok (.invokestatic 149, 3) := by decide +kernel
theorem dX11_joinedAt_77 : decode cX11_joinedAt 77 = .ok (.aload_n 0, 1) := by decide +kernel
theorem dX11_joinedAt_78 : decode cX11_joinedAt 78 = .ok (.getfield 105, 3) := by decide +kernel
theorem dX11_joinedAt_81 : decode cX11_joinedAt 81 = .ok (.aload_n 0, 1) := by decide +kernel
theorem dX11_joinedAt_82 : decode cX11_joinedAt 82 = .ok (.getfield 99, 3) := by decide +kernel
theorem dX11_joinedAt_85 : decode cX11_joinedAt 85 = .ok (.iconst 4, 1) := by decide +kernel
theorem dX11_joinedAt_86 : decode cX11_joinedAt 86 = .ok (.iload 4, 2) := by decide +kernel
theorem dX11_joinedAt_88 : decode cX11_joinedAt 88 = .ok (.imul, 1) := by decide +kernel
theorem dX11_joinedAt_89 : decode cX11_joinedAt 89 = .ok (.iload 6, 2) := by decide +kernel
theorem dX11_joinedAt_91 : decode cX11_joinedAt 91 = .ok (.iadd, 1) := by decide +kernel
theorem dX11_joinedAt_92 : decode cX11_joinedAt 92 = .ok (.iaload, 1) := by decide +kernel
theorem dX11_joinedAt_93 : decode cX11_joinedAt 93 = .ok (.iaload, 1) := by decide +kernel
theorem dX11_joinedAt_94 : decode cX11_joinedAt 94 = .ok (.iastore, 1) := by decide +kernel
theorem dX11_joinedAt_95 : decode cX11_joinedAt 95 = .ok (.iinc 6 1, 3) := by decide +kernel
theorem dX11_joinedAt_98 : decode cX11_joinedAt 98 = .ok (.goto (-39), 3) := by decide +kernel
theorem dX11_joinedAt_101 : decode cX11_joinedAt 101 = .ok (.iinc 4 1, 3) := by decide +kernel
theorem dX11_joinedAt_104 : decode cX11_joinedAt 104 = .ok (.goto (-93), 3) := by decide +kernel
theorem dX11_joinedAt_107 : decode cX11_joinedAt 107 = .ok (.aload_n 0, 1) := by decide +kernel
theorem dX11_joinedAt_108 : decode cX11_joinedAt 108 = .ok (.getfield 7, 3) := by decide +kernel
theorem dX11_joinedAt_111 : decode cX11_joinedAt 111 = .ok (.iload_n 1, 1) := by decide +kernel
theorem dX11_joinedAt_112 : decode cX11_joinedAt 112 = .ok (.iconst 0, 1) := by decide +kernel
theorem dX11_joinedAt_113 : decode cX11_joinedAt 113 = .ok (.iastore, 1) := by decide +kernel
theorem dX11_joinedAt_114 : decode cX11_joinedAt 114 = .ok (.aload_n 0, 1) := by decide +kernel
theorem dX11_joinedAt_115 : decode cX11_joinedAt 115 = .ok (.getfield 20, 3) := by decide +kernel
theorem dX11_joinedAt_118 : decode cX11_joinedAt 118 = .ok (.iload_n 1, 1) := by decide +kernel
theorem dX11_joinedAt_119 : decode cX11_joinedAt 119 = .ok (.iconst 0, 1) := by decide +kernel
theorem dX11_joinedAt_120 : decode cX11_joinedAt 120 = .ok (.iastore, 1) := by decide +kernel
theorem dX11_joinedAt_121 : decode cX11_joinedAt 121 = .ok (.aload_n 0, 1) := by decide +kernel
theorem dX11_joinedAt_122 : decode cX11_joinedAt 122 = .ok (.iload_n 2, 1) := by decide +kernel
theorem dX11_joinedAt_123 : decode cX11_joinedAt 123 = .ok (.invokevirtual 157, 3) := by decide +kernel
theorem dX11_joinedAt_126 : decode cX11_joinedAt 126 = .ok (.ireturn, 1) := by decide +kernel
def f_Model_joinedAt_L59 (x1 : Int32) (x3 : Int32) (x4 : Int32) (x5 : Int32) (k101 : MI → MJ → Prop) : Nat → Int32 → MI → MJ → Prop
  | 0, _, _, _ => False
  | nf59 + 1, x6, I, J =>
  (if x3 ≤ x6 then k101 I J else f_Model_spot x1 x5 x6 I J (fun r74 I74 J74 => vp_in ((4 * x4) + x6) 2048 ∧ vp_in (I74 207 ((4 * x4) + x6).toNatClampNeg) 512 ∧ vp_in r74 1120 ∧ ∀ I94 : MI, I94 = sI I74 189 (upd (I74 189) r74.toNatClampNeg (I74 209 (I74 207 ((4 * x4) + x6).toNatClampNeg).toNatClampNeg)) → ∀ t95 : Int32, t95 = x6 + 1 → f_Model_joinedAt_L59 x1 x3 x4 x5 k101 nf59 t95 I94 J74))
def f_Model_joinedAt_b55 (x1 : Int32) (x3 : Int32) (x4 : Int32) (x5 : Int32) (s1 : Int32) (s2 : Int32) (kh : Int32 → MI → MJ → Prop) (I : MI) (J : MJ) : Prop :=
  vp_in s1 280 ∧ ∀ I55 : MI, I55 = sI I 187 (upd (I 187) s1.toNatClampNeg s2) → ∃ n, f_Model_joinedAt_L59 x1 x3 x4 x5 (fun (I : MI) (J : MJ) => ∀ t101 : Int32, t101 = x4 + 1 → kh t101 I J) n 0 I55 J
def f_Model_joinedAt_L11 (x1 : Int32) (x3 : Int32) (k107 : MI → MJ → Prop) : Nat → Int32 → MI → MJ → Prop
  | 0, _, _, _ => False
  | nf11 + 1, x4, I, J =>
  (if (I 177 32) ≤ x4 then k107 I J else vp_in x4 512 ∧ ∀ t27 : Int32, t27 = I 209 x4.toNatClampNeg → vp_in x4 512 ∧ (if (I 208 x4.toNatClampNeg) = 0 then f_Model_joinedAt_b55 x1 x3 x4 t27 ((14 * x1) + t27) 0 (f_Model_joinedAt_L11 x1 x3 k107 nf11) I J else f_Model_joinedAt_b55 x1 x3 x4 t27 ((14 * x1) + t27) 1 (f_Model_joinedAt_L11 x1 x3 k107 nf11) I J))
def f_Model_joinedAt (x1 : Int32) (x2 : Int32) (x3 : Int32) (I : MI) (J : MJ) (Q : Int32 → MI → MJ → Prop) : Prop :=
  f_Model_clear x1 (0 : Int32) x2 x3 I J (fun I5 J5 => ∃ n, f_Model_joinedAt_L11 x1 x3 (fun (I : MI) (J : MJ) => vp_in x1 16 ∧ ∀ I113 : MI, I113 = sI I 178 (upd (I 178) x1.toNatClampNeg 0) → vp_in x1 16 ∧ ∀ I120 : MI, I120 = sI I113 181 (upd (I113 181) x1.toNatClampNeg 0) → f_Model_done x2 I120 J (fun r123 I123 J123 => Q r123 I123 J123)) n 0 I5 J5)
set_option maxRecDepth 100000 in
set_option maxHeartbeats 4000000 in
theorem w_Model_joinedAt_L59 {Γ : Ctx} {Q : Int32 → MI → MJ → Prop} {x1 : Int32} {x2 : Int32} {x3 : Int32} {x4 : Int32} {x5 : Int32} {k101 : MI → MJ → Prop} (X : Cx Γ cX11_joinedAt 7 RX11 2) (Y : Rt Γ (Pi Q) (Option.some Jvm.ClassFile.FieldType.int))  (hk101 : ∀ (I : MI) (J : MJ), k101 I J → Wp Γ 7 101 [(0, .ref (ad Γ 177)), (1, .int x1), (2, .int x2), (3, .int x3), (4, .int x4)] [] I J) : ∀ (n : Nat) (x6 : Int32) (I : MI) (J : MJ), f_Model_joinedAt_L59 x1 x3 x4 x5 k101 n x6 I J → Wp Γ 7 59 [(0, .ref (ad Γ 177)), (1, .int x1), (2, .int x2), (3, .int x3), (4, .int x4), (5, .int x5), (6, .int x6)] [] I J := by
  intro n
  induction n with
  | zero => intro x6 I J h; exact absurd h (by simp [f_Model_joinedAt_L59])
  | succ n ih =>
  intro x6 I J h
  unfold f_Model_joinedAt_L59 at h
  refine wp_iload X dX11_joinedAt_59 6 rfl ?_
  refine wp_iload_n X dX11_joinedAt_61 3 rfl ?_
  refine wp_icmp_ge (tgt := 101) X dX11_joinedAt_62 (by decide) (fun hc => ?_) (fun hc => ?_)
  · have h := ite_t h hc
    refine wp_sub X [0, 1, 2, 3, 4] rfl ?_
    exact hk101 _ _ h
  · have h := ite_f h hc
    refine wp_aload_n X dX11_joinedAt_65 0 rfl ?_
    refine gf_X11_45 (o' := 189) X sh_177 rfl dX11_joinedAt_66 ?_
    refine wp_iload_n X dX11_joinedAt_69 1 rfl ?_
    refine wp_iload X dX11_joinedAt_70 5 rfl ?_
    refine wp_iload X dX11_joinedAt_72 6 rfl ?_
    refine cs_Model_spot X dX11_joinedAt_74 ml_X11_149  h (Nat.le_of_ble_eq_true rfl) (by decide) (fun r74 I74 J74 h => ?_)
    refine wp_aload_n X dX11_joinedAt_77 0 rfl ?_
    refine gf_X11_105 (o' := 209) X sh_177 rfl dX11_joinedAt_78 ?_
    refine wp_aload_n X dX11_joinedAt_81 0 rfl ?_
    refine gf_X11_99 (o' := 207) X sh_177 rfl dX11_joinedAt_82 ?_
    refine wp_iconst X dX11_joinedAt_85 ic_4 ?_
    refine wp_iload X dX11_joinedAt_86 4 rfl ?_
    refine wp_imul X dX11_joinedAt_88 ?_
    refine wp_iload X dX11_joinedAt_89 6 rfl ?_
    refine wp_iadd X dX11_joinedAt_91 ?_
    obtain ⟨hb92, h⟩ := h
    refine wp_iald X sh_207 hb92 dX11_joinedAt_92 ?_
    obtain ⟨hb93, h⟩ := h
    refine wp_iald X sh_209 hb93 dX11_joinedAt_93 ?_
    obtain ⟨hb94, h⟩ := h
    refine wp_iast X sh_189 hb94 dX11_joinedAt_94 ?_
    refine wp_memI (fun I94 eI94 => ?_)
    have h := h I94 eI94
    obtain ⟨t95, et95⟩ : ∃ y : Int32, y = x6 + 1 := ⟨_, rfl⟩
    have h := h t95 et95
    refine wp_iinc (L' := [(6, .int t95), (0, .ref (ad Γ 177)), (1, .int x1), (2, .int x2), (3, .int x3), (4, .int x4), (5, .int x5)]) X dX11_joinedAt_95 6 rfl (ii_1 et95) (by decide) rfl ?_
    refine wp_goto (tgt := 59) X dX11_joinedAt_98 (by decide) ?_
    refine wp_sub X [1, 2, 3, 4, 5, 6, 0] rfl ?_
    exact ih _ _ _ h

set_option maxRecDepth 100000 in
set_option maxHeartbeats 4000000 in
theorem w_Model_joinedAt_b55 {Γ : Ctx} {Q : Int32 → MI → MJ → Prop} {x1 : Int32} {x2 : Int32} {x3 : Int32} {x4 : Int32} {x5 : Int32} {s1 : Int32} {s2 : Int32} {kh : Int32 → MI → MJ → Prop} (X : Cx Γ cX11_joinedAt 7 RX11 2) (Y : Rt Γ (Pi Q) (Option.some Jvm.ClassFile.FieldType.int))  (hkh : ∀ (x4 : Int32) (I : MI) (J : MJ), kh x4 I J → Wp Γ 7 11 [(0, .ref (ad Γ 177)), (1, .int x1), (2, .int x2), (3, .int x3), (4, .int x4)] [] I J) {I : MI} {J : MJ} (h : f_Model_joinedAt_b55 x1 x3 x4 x5 s1 s2 kh I J) : Wp Γ 7 55 [(0, .ref (ad Γ 177)), (1, .int x1), (2, .int x2), (3, .int x3), (4, .int x4), (5, .int x5)] [.int s2, .int s1, .ref (ad Γ 187)] I J := by
  unfold f_Model_joinedAt_b55 at h
  obtain ⟨hb55, h⟩ := h
  refine wp_iast X sh_187 hb55 dX11_joinedAt_55 ?_
  refine wp_memI (fun I55 eI55 => ?_)
  have h := h I55 eI55
  refine wp_iconst X dX11_joinedAt_56 ic_0 ?_
  refine wp_istore (L' := [(6, .int 0), (0, .ref (ad Γ 177)), (1, .int x1), (2, .int x2), (3, .int x3), (4, .int x4), (5, .int x5)]) X dX11_joinedAt_57 (by decide) rfl ?_
  obtain ⟨n, h⟩ := h
  refine wp_sub X [1, 2, 3, 4, 5, 6, 0] rfl ?_
  refine w_Model_joinedAt_L59 X Y  ?_ n _ _ _ h
  · intro I J h
    obtain ⟨t101, et101⟩ : ∃ y : Int32, y = x4 + 1 := ⟨_, rfl⟩
    have h := h t101 et101
    refine wp_iinc (L' := [(4, .int t101), (0, .ref (ad Γ 177)), (1, .int x1), (2, .int x2), (3, .int x3)]) X dX11_joinedAt_101 4 rfl (ii_1 et101) (by decide) rfl ?_
    refine wp_goto (tgt := 11) X dX11_joinedAt_104 (by decide) ?_
    refine wp_sub X [1, 2, 3, 4, 0] rfl ?_
    exact hkh _ _ _ h

set_option maxRecDepth 100000 in
set_option maxHeartbeats 4000000 in
theorem w_Model_joinedAt_L11 {Γ : Ctx} {Q : Int32 → MI → MJ → Prop} {x1 : Int32} {x2 : Int32} {x3 : Int32} {k107 : MI → MJ → Prop} (X : Cx Γ cX11_joinedAt 7 RX11 2) (Y : Rt Γ (Pi Q) (Option.some Jvm.ClassFile.FieldType.int))  (hk107 : ∀ (I : MI) (J : MJ), k107 I J → Wp Γ 7 107 [(0, .ref (ad Γ 177)), (1, .int x1), (2, .int x2)] [] I J) : ∀ (n : Nat) (x4 : Int32) (I : MI) (J : MJ), f_Model_joinedAt_L11 x1 x3 k107 n x4 I J → Wp Γ 7 11 [(0, .ref (ad Γ 177)), (1, .int x1), (2, .int x2), (3, .int x3), (4, .int x4)] [] I J := by
  intro n
  induction n with
  | zero => intro x4 I J h; exact absurd h (by simp [f_Model_joinedAt_L11])
  | succ n ih =>
  intro x4 I J h
  unfold f_Model_joinedAt_L11 at h
  refine wp_iload X dX11_joinedAt_11 4 rfl ?_
  refine wp_aload_n X dX11_joinedAt_13 0 rfl ?_
  refine gf_X11_303 X sh_177 dX11_joinedAt_14 ?_
  refine wp_icmp_ge (tgt := 107) X dX11_joinedAt_17 (by decide) (fun hc => ?_) (fun hc => ?_)
  · have h := ite_t h hc
    refine wp_sub X [0, 1, 2] rfl ?_
    exact hk107 _ _ h
  · have h := ite_f h hc
    refine wp_aload_n X dX11_joinedAt_20 0 rfl ?_
    refine gf_X11_105 (o' := 209) X sh_177 rfl dX11_joinedAt_21 ?_
    refine wp_iload X dX11_joinedAt_24 4 rfl ?_
    obtain ⟨hb26, h⟩ := h
    refine wp_iald X sh_209 hb26 dX11_joinedAt_26 ?_
    refine wp_topi (fun t27 et27 => ?_)
    have h := h t27 et27
    refine wp_istore (L' := [(5, .int t27), (0, .ref (ad Γ 177)), (1, .int x1), (2, .int x2), (3, .int x3), (4, .int x4)]) X dX11_joinedAt_27 (by decide) rfl ?_
    refine wp_aload_n X dX11_joinedAt_29 1 rfl ?_
    refine gf_X11_39 (o' := 187) X sh_177 rfl dX11_joinedAt_30 ?_
    refine wp_bipush X dX11_joinedAt_33 bi_14 ?_
    refine wp_iload_n X dX11_joinedAt_35 2 rfl ?_
    refine wp_imul X dX11_joinedAt_36 ?_
    refine wp_iload X dX11_joinedAt_37 0 rfl ?_
    refine wp_iadd X dX11_joinedAt_39 ?_
    refine wp_aload_n X dX11_joinedAt_40 1 rfl ?_
    refine gf_X11_102 (o' := 208) X sh_177 rfl dX11_joinedAt_41 ?_
    refine wp_iload X dX11_joinedAt_44 5 rfl ?_
    obtain ⟨hb46, h⟩ := h
    refine wp_zald X sh_208 hb46 dX11_joinedAt_46 ?_
    refine wp_if_eq (tgt := 54) X dX11_joinedAt_47 (by decide) (fun hc => ?_) (fun hc => ?_)
    · have h := ite_t h hc
      refine wp_iconst X dX11_joinedAt_54 ic_0 ?_
      refine wp_sub X [1, 2, 3, 4, 5, 0] rfl ?_
      exact w_Model_joinedAt_b55 X Y ih h
    · have h := ite_f h hc
      refine wp_iconst X dX11_joinedAt_50 ic_1 ?_
      refine wp_goto (tgt := 55) X dX11_joinedAt_51 (by decide) ?_
      refine wp_sub X [1, 2, 3, 4, 5, 0] rfl ?_
      exact w_Model_joinedAt_b55 X Y ih h

set_option maxRecDepth 100000 in
set_option maxHeartbeats 4000000 in
theorem w_Model_joinedAt_b0 {Γ : Ctx} {Q : Int32 → MI → MJ → Prop} {x1 : Int32} {x2 : Int32} {x3 : Int32}  (X : Cx Γ cX11_joinedAt 7 RX11 2) (Y : Rt Γ (Pi Q) (Option.some Jvm.ClassFile.FieldType.int))   {I : MI} {J : MJ} (h : f_Model_joinedAt x1 x2 x3 I J Q) : Wp Γ 7 0 [(0, .ref (ad Γ 177)), (1, .int x1), (2, .int x2), (3, .int x3)] [] I J := by
  unfold f_Model_joinedAt at h
  refine wp_aload_n X dX11_joinedAt_0 0 rfl ?_
  refine wp_iload_n X dX11_joinedAt_1 1 rfl ?_
  refine wp_iconst X dX11_joinedAt_2 ic_0 ?_
  refine wp_iload_n X dX11_joinedAt_3 2 rfl ?_
  refine wp_iload_n X dX11_joinedAt_4 3 rfl ?_
  refine cv_Model_clear X dX11_joinedAt_5 ml_X11_209  h (Nat.le_of_ble_eq_true rfl) (by decide) (fun I5 J5 h => ?_)
  refine wp_iconst X dX11_joinedAt_8 ic_0 ?_
  refine wp_istore (L' := [(4, .int 0), (0, .ref (ad Γ 177)), (1, .int x1), (2, .int x2), (3, .int x3)]) X dX11_joinedAt_9 (by decide) rfl ?_
  obtain ⟨n, h⟩ := h
  refine wp_sub X [1, 2, 3, 4, 0] rfl ?_
  refine w_Model_joinedAt_L11 X Y  ?_ n _ _ _ h
  · intro I J h
    refine wp_aload_n X dX11_joinedAt_107 0 rfl ?_
    refine gf_X11_7 (o' := 178) X sh_177 rfl dX11_joinedAt_108 ?_
    refine wp_iload_n X dX11_joinedAt_111 1 rfl ?_
    refine wp_iconst X dX11_joinedAt_112 ic_0 ?_
    obtain ⟨hb113, h⟩ := h
    refine wp_iast X sh_178 hb113 dX11_joinedAt_113 ?_
    refine wp_memI (fun I113 eI113 => ?_)
    have h := h I113 eI113
    refine wp_aload_n X dX11_joinedAt_114 0 rfl ?_
    refine gf_X11_20 (o' := 181) X sh_177 rfl dX11_joinedAt_115 ?_
    refine wp_iload_n X dX11_joinedAt_118 1 rfl ?_
    refine wp_iconst X dX11_joinedAt_119 ic_0 ?_
    obtain ⟨hb120, h⟩ := h
    refine wp_iast X sh_181 hb120 dX11_joinedAt_120 ?_
    refine wp_memI (fun I120 eI120 => ?_)
    have h := h I120 eI120
    refine wp_aload_n X dX11_joinedAt_121 0 rfl ?_
    refine wp_iload_n X dX11_joinedAt_122 2 rfl ?_
    refine cv_Model_done X dX11_joinedAt_123 ml_X11_157  h (Nat.le_of_ble_eq_true rfl) (by decide) (fun r123 I123 J123 h => ?_)
    exact wp_iret X Y dX11_joinedAt_126 ⟨_, rfl, h⟩

theorem c_Model_joinedAt {l : Launch} {g : GE} (hg : Inj g) {I : MI} {J : MJ} {Q : Int32 → MI → MJ → Prop} {x1 : Int32} {x2 : Int32} {x3 : Int32}  (h : f_Model_joinedAt x1 x2 x3 I J Q) : Cm l g yX11_joinedAt cX11_joinedAt 7 (Option.some Jvm.ClassFile.FieldType.int) 2 [.ref (g.1 177), .int x1, .int x2, .int x3] I J (Pi Q) := by
  refine Cm.of (As := fun ad => [.ref (ad 177), .int x1, .int x2, .int x3]) hg pn_X11 (Nat.le_of_ble_eq_true rfl) ?_
  exact (fun Γ _ _ X Y => w_Model_joinedAt_b0 X Y  h)
theorem cv_Model_joinedAt {Γ : Ctx} {cc : ByteArray} {nL d pc index : Nat} {own : String} {L : List (Nat × Value)} {rest : List Value} {I : MI} {J : MJ} {Q : Int32 → MI → MJ → Prop} {x1 : Int32} {x2 : Int32} {x3 : Int32} (X : Cx Γ cc nL own d) (hd : decode cc pc = .ok (.invokevirtual index, 3)) (hlink : Cond.methodLink own index yX11_joinedAt ∈ TT)  (h : f_Model_joinedAt x1 x2 x3 I J Q) (hrest : (rest.map fun v => v.category).sum ≤ 8) (hdd : 2 + 1 ≤ d) (kk : ∀ (r : Int32) (I' : MI) (J' : MJ), Q r I' J' → Wp Γ nL (pc + 3) L (.int r :: rest) I' J') : Wp Γ nL pc L (.int x3 :: .int x2 :: .int x1 :: .ref (ad Γ 177) :: rest) I J :=
  wp_callV (As := [.int x1, .int x2, .int x3]) (rest := rest) (T := TX11) (N := 62) X hd hlink mv_X11_joinedAt sh_177 (by decide) rfl (c_Model_joinedAt X.inj  h) rfl rfl hrest hdd (fun v I' J' hv => by obtain ⟨r, rfl, hq⟩ := hv; exact kk r I' J' hq)
theorem dX11_join_0 : decode cX11_join 0 = .ok (.iload_n 1, 1) := by decide +kernel
theorem dX11_join_1 : decode cX11_join 1 = .ok (.ifCond .lt 8, 3) := by decide +kernel
theorem dX11_join_4 : decode cX11_join 4 = .ok (.iload_n 1, 1) := by decide +kernel
theorem dX11_join_5 : decode cX11_join 5 = .ok (.iconst 5, 1) := by decide +kernel
theorem dX11_join_6 : decode cX11_join 6 = .ok (.if_icmp .le 9, 3) := by decide +kernel
theorem dX11_join_9 : decode cX11_join 9 = .ok (.aload_n 0, 1) := by decide +kernel
theorem dX11_join_10 : decode cX11_join 10 = .ok (.iconst 2, 1) := by decide +kernel
theorem dX11_join_11 : decode cX11_join 11 = .ok (.invokevirtual 219, 3) := by decide +kernel
theorem dX11_join_14 : decode cX11_join 14 = .ok (.ireturn, 1) := by decide +kernel
theorem dX11_join_15 : decode cX11_join 15 = .ok (.iload_n 1, 1) := by decide +kernel
theorem dX11_join_16 : decode cX11_join 16 = .ok (.ifCond .eq 13, 3) := by decide +kernel
theorem dX11_join_19 : decode cX11_join 19 = .ok (.iload_n 1, 1) := by decide +kernel
theorem dX11_join_20 : decode cX11_join 20 = .ok (.iconst 1, 1) := by decide +kernel
theorem dX11_join_21 : decode cX11_join 21 = .ok (.if_icmp .eq 8, 3) := by decide +kernel
theorem dX11_join_24 : decode cX11_join 24 = .ok (.iload_n 1, 1) := by decide +kernel
theorem dX11_join_25 : decode cX11_join 25 = .ok (.iconst 3, 1) := by decide +kernel
theorem dX11_join_26 : decode cX11_join 26 = .ok (.if_icmp .ne 7, 3) := by decide +kernel
theorem dX11_join_29 : decode cX11_join 29 = .ok (.iconst 1, 1) := by decide +kernel
theorem dX11_join_30 : decode cX11_join 30 = .ok (.goto 4, 3) := by decide +kernel
theorem dX11_join_33 : decode cX11_join 33 = .ok (.iconst 0, 1) := by decide +kernel
theorem dX11_join_34 : decode cX11_join 34 = .ok (.istore 5, 2) := by decide +kernel
theorem dX11_join_36 : decode cX11_join 36 = .ok (.aload_n 0, 1) := by decide +kernel
theorem dX11_join_37 : decode cX11_join 37 = .ok (.iload_n 2, 1) := by decide +kernel
theorem dX11_join_38 : decode cX11_join 38 = .ok (.invokevirtual 222, 3) := by decide +kernel
theorem dX11_join_41 : decode cX11_join 41 = .ok (.ifCond .eq 13, 3) := by decide +kernel
theorem dX11_join_44 : decode cX11_join 44 = .ok (.aload_n 0, 1) := by decide +kernel
theorem dX11_join_45 : decode cX11_join 45 = .ok (.aload_n 0, 1) := by decide +kernel
theorem dX11_join_46 : decode cX11_join 46 = .ok (.iload_n 2, 1) := by decide +kernel
theorem dX11_join_47 : decode cX11_join 47 = .ok (.invokevirtual 222, 3) := by decide +kernel
theorem dX11_join_50 : decode cX11_join 50 = .ok (.invokevirtual 219, 3) := by decide +kernel
theorem dX11_join_53 : decode cX11_join 53 = .ok (.ireturn, 1) := by decide +kernel
theorem dX11_join_54 : decode cX11_join 54 = .ok (.iload 5, 2) := by decide +kernel
theorem dX11_join_56 : decode cX11_join 56 = .ok (.ifCond .eq 21, 3) := by decide +kernel
theorem dX11_join_59 : decode cX11_join 59 = .ok (.aload_n 0, 1) := by decide +kernel
theorem dX11_join_60 : decode cX11_join 60 = .ok (.iload_n 3, 1) := by decide +kernel
theorem dX11_join_61 : decode cX11_join 61 = .ok (.invokevirtual 222, 3) := by decide +kernel
theorem dX11_join_64 : decode cX11_join 64 = .ok (.ifCond .eq 13, 3) := by decide +kernel
theorem dX11_join_67 : decode cX11_join 67 = .ok (.aload_n 0, 1) := by decide +kernel
theorem dX11_join_68 : decode cX11_join 68 = .ok (.aload_n 0, 1) := by decide +kernel
theorem dX11_join_69 : decode cX11_join 69 = .ok (.iload_n 3, 1) := by decide +kernel
theorem dX11_join_70 : decode cX11_join 70 = .ok (.invokevirtual 222, 3) := by decide +kernel
theorem dX11_join_73 : decode cX11_join 73 = .ok (.invokevirtual 219, 3) := by decide +kernel
theorem dX11_join_76 : decode cX11_join 76 = .ok (.ireturn, 1) := by decide +kernel
theorem dX11_join_77 : decode cX11_join 77 = .ok (.iload 4, 2) := by decide +kernel
theorem dX11_join_79 : decode cX11_join 79 = .ok (.invokestatic 145, 3) := by decide +kernel
theorem dX11_join_82 : decode cX11_join 82 = .ok (.ifCond .ne 9, 3) := by decide +kernel
theorem dX11_join_85 : decode cX11_join 85 = .ok (.aload_n 0, 1) := by decide +kernel
theorem dX11_join_86 : decode cX11_join 86 = .ok (.iconst 2, 1) := by decide +kernel
theorem dX11_join_87 : decode cX11_join 87 = .ok (.invokevirtual 219, 3) := by decide +kernel
theorem dX11_join_90 : decode cX11_join 90 = .ok (.ireturn, 1) := by decide +kernel
theorem dX11_join_91 : decode cX11_join 91 = .ok (.aload_n 0, 1) := by decide +kernel
theorem dX11_join_92 : decode cX11_join 92 = .ok (.iload_n 2, 1) := by decide +kernel
theorem dX11_join_93 : decode cX11_join 93 = .ok (.bipush 18, 2) := by decide +kernel
theorem dX11_join_95 : decode cX11_join 95 = .ok (.invokevirtual 276, 3) := by decide +kernel
theorem dX11_join_98 : decode cX11_join 98 = .ok (.ifCond .eq 22, 3) := by decide +kernel
theorem dX11_join_101 : decode cX11_join 101 = .ok (.aload_n 0, 1) := by decide +kernel
theorem dX11_join_102 : decode cX11_join 102 = .ok (.iload 5, 2) := by decide +kernel
theorem dX11_join_104 : decode cX11_join 104 = .ok (.ifCond .eq 7, 3) := by decide +kernel
theorem dX11_join_107 : decode cX11_join 107 = .ok (.iload_n 3, 1) := by decide +kernel
theorem dX11_join_108 : decode cX11_join 108 = .ok (.goto 4, 3) := by decide +kernel
theorem dX11_join_111 : decode cX11_join 111 = .ok (.iload_n 2, 1) := by decide +kernel
theorem dX11_join_112 : decode cX11_join 112 = .ok (.bipush 19, 2) := by decide +kernel
theorem dX11_join_114 : decode cX11_join 114 = .ok (.invokevirtual 276, 3) := by decide +kernel
theorem dX11_join_117 : decode cX11_join 117 = .ok (.ifCond .ne 9, 3) := by decide +kernel
theorem dX11_join_120 : decode cX11_join 120 = .ok (.aload_n 0, 1) := by decide +kernel
theorem dX11_join_121 : decode cX11_join 121 = .ok (.iconst 5, 1) := by decide +kernel
theorem dX11_join_122 : decode cX11_join 122 = .ok (.invokevirtual 219, 3) := by decide +kernel
theorem dX11_join_125 : decode cX11_join 125 = .ok (.ireturn, 1) := by decide +kernel
theorem dX11_join_126 : decode cX11_join 126 = .ok (.aload_n 0, 1) := by decide +kernel
theorem dX11_join_127 : decode cX11_join 127 = .ok (.bipush 18, 2) := by decide +kernel
theorem dX11_join_129 : decode cX11_join 129 = .ok (.invokevirtual 323, 3) := by decide +kernel
theorem dX11_join_132 : decode cX11_join 132 = .ok (.ifCond .ne 12, 3) := by decide +kernel
theorem dX11_join_135 : decode cX11_join 135 = .ok (.aload_n 0, 1) := by decide +kernel
theorem dX11_join_136 : decode cX11_join 136 = .ok (.bipush 19, 2) := by decide +kernel
theorem dX11_join_138 : decode cX11_join 138 = .ok (.invokevirtual 323, 3) := by decide +kernel
theorem dX11_join_141 : decode cX11_join 141 = .ok (.ifCond .eq 9, 3) := by decide +kernel
theorem dX11_join_144 : decode cX11_join 144 = .ok (.aload_n 0, 1) := by decide +kernel
theorem dX11_join_145 : decode cX11_join 145 = .ok (.iconst 4, 1) := by decide +kernel
theorem dX11_join_146 : decode cX11_join 146 = .ok (.invokevirtual 219, 3) := by decide +kernel
theorem dX11_join_149 : decode cX11_join 149 = .ok (.ireturn, 1) := by decide +kernel
theorem dX11_join_150 : decode cX11_join 150 = .ok (.iload 5, 2) := by decide +kernel
theorem dX11_join_152 : decode cX11_join 152 = .ok (.ifCond .eq 30, 3) := by decide +kernel
theorem dX11_join_155 : decode cX11_join 155 = .ok (.aload_n 0, 1) := by decide +kernel
theorem dX11_join_156 : decode cX11_join 156 = .ok (.getfield 36, 3) := by decide +kernel
theorem dX11_join_159 : decode cX11_join 159 = .ok (.bipush 19, 2) := by decide +kernel
theorem dX11_join_161 : decode cX11_join 161 = .ok (.iaload, 1) := by decide +kernel
theorem dX11_join_162 : decode cX11_join 162 = .ok (.aload_n 0, 1) := by decide +kernel
theorem dX11_join_163 : decode cX11_join 163 = .ok (.getfield 36, 3) := by decide +kernel
theorem dX11_join_166 : decode cX11_join 166 = .ok (.bipush 18, 2) := by decide +kernel
theorem dX11_join_168 : decode cX11_join 168 = .ok (.iaload, 1) := by decide +kernel
theorem dX11_join_169 : decode cX11_join 169 = .ok (.if_icmp .le 13, 3) := by decide +kernel
theorem dX11_join_172 : decode cX11_join 172 = .ok (.aload_n 0, 1) := by decide +kernel
theorem dX11_join_173 : decode cX11_join 173 = .ok (.getfield 36, 3) := by decide +kernel
theorem dX11_join_176 : decode cX11_join 176 = .ok (.bipush 19, 2) := by decide +kernel
theorem dX11_join_178 : decode cX11_join 178 = .ok (.iaload, 1) := by decide +kernel
theorem dX11_join_179 : decode cX11_join 179 = .ok (.goto 10, 3) := by decide +kernel
theorem dX11_join_182 : decode cX11_join 182 = .ok (.aload_n 0, 1) := by decide +kernel
theorem dX11_join_183 : decode cX11_join 183 = .ok (.getfield 36, 3) := by decide +kernel
theorem dX11_join_186 : decode cX11_join 186 = .ok (.bipush 18, 2) := by decide +kernel
theorem dX11_join_188 : decode cX11_join 188 = .ok (.iaload, 1) := by decide +kernel
theorem dX11_join_189 : decode cX11_join 189 = .ok (.istore 6, 2) := by decide +kernel
theorem dX11_join_191 : decode cX11_join 191 = .ok (.aload_n 0, 1) := by decide +kernel
theorem dX11_join_192 : decode cX11_join 192 = .ok (.iload_n 1, 1) := by decide +kernel
theorem dX11_join_193 : decode cX11_join 193 = .ok (.iload 6, 2) := by decide +kernel
theorem dX11_join_195 : decode cX11_join 195 = .ok (.invokevirtual 326, 3) := by decide +kernel
theorem dX11_join_198 : decode cX11_join 198 = .ok (.ifCond .ne 9, 3) := by decide +kernel
theorem dX11_join_201 : decode cX11_join 201 = .ok (.aload_n 0, 1) := by decide +kernel
theorem dX11_join_202 : decode cX11_join 202 = .ok (.iconst 5, 1) := by decide +kernel
theorem dX11_join_203 : decode cX11_join 203 = .ok (.invokevirtual 219, 3) := by decide +kernel
theorem dX11_join_206 : decode cX11_join 206 = .ok (.ireturn, 1) := by decide +kernel
theorem dX11_join_207 : decode cX11_join 207 = .ok (.aload_n 0, 1) := by decide +kernel
theorem dX11_join_208 : decode cX11_join 208 = .ok (.iload 6, 2) := by decide +kernel
theorem dX11_join_210 : decode cX11_join 210 = .ok (.invokevirtual 329, 3) := by decide +kernel
theorem dX11_join_213 : decode cX11_join 213 = .ok (.istore 7, 2) := by decide +kernel
theorem dX11_join_215 : decode cX11_join 215 = .ok (.iload 7, 2) := by decide +kernel
theorem dX11_join_217 : decode cX11_join 217 = .ok (.bipush 14, 2) := by decide +kernel
theorem dX11_join_219 : decode cX11_join 219 = .ok (.if_icmp .le 11, 3) := by decide +kernel
theorem dX11_join_222 : decode cX11_join 222 = .ok (.aload_n 0, 1) := by decide +kernel
theorem dX11_join_223 : decode cX11_join 223 = .ok (.iconst 5, 1) := by decide +kernel
theorem dX11_join_224 : decode cX11_join 224 = .ok (.invokevirtual 219, 3) := by decide +kernel
theorem dX11_join_227 : decode cX11_join 227 = .ok (.goto 13, 3) := by decide +kernel
theorem dX11_join_230 : decode cX11_join 230 = .ok (.aload_n 0, 1) := by decide +kernel
theorem dX11_join_231 : decode cX11_join 231 = .ok (.iload 4, 2) := by decide +kernel
theorem dX11_join_233 : decode cX11_join 233 = .ok (.iload 7, 2) := by decide +kernel
theorem dX11_join_235 : decode cX11_join 235 = .ok (.iload 6, 2) := by decide +kernel
theorem dX11_join_237 : decode cX11_join 237 = .ok (.invokevirtual 332, 3) := by decide +kernel
theorem dX11_join_240 : decode cX11_join 240 = .ok (.ireturn, 1) := by decide +kernel
def f_Model_join_b189 (x1 : Int32) (x4 : Int32) (s0 : Int32) (Q : Int32 → MI → MJ → Prop) (I : MI) (J : MJ) : Prop :=
  f_Model_findSets x1 s0 I J (fun r195 I195 J195 => (if r195 = 0 then f_Model_refuse (5 : Int32) I195 J195 (fun r203 I203 J203 => Q r203 I203 J203) else f_Model_findClasses s0 I195 J195 (fun r210 I210 J210 => (if r210 ≤ 14 then f_Model_joinedAt x4 r210 s0 I210 J210 (fun r237 I237 J237 => Q r237 I237 J237) else f_Model_refuse (5 : Int32) I210 J210 (fun r224 I224 J224 => Q r224 I224 J224)))))
def f_Model_join_b182 (x1 : Int32) (x4 : Int32) (Q : Int32 → MI → MJ → Prop) (I : MI) (J : MJ) : Prop :=
  vp_in 18 20 ∧ f_Model_join_b189 x1 x4 (I 186 (18 : Int32).toNatClampNeg) Q I J
def f_Model_join_b144  (Q : Int32 → MI → MJ → Prop) (I : MI) (J : MJ) : Prop :=
  f_Model_refuse (4 : Int32) I J (fun r146 I146 J146 => Q r146 I146 J146)
def f_Model_join_b120  (Q : Int32 → MI → MJ → Prop) (I : MI) (J : MJ) : Prop :=
  f_Model_refuse (5 : Int32) I J (fun r122 I122 J122 => Q r122 I122 J122)
def f_Model_join_b112 (x1 : Int32) (x4 : Int32) (x5 : Int32) (s1 : Int32) (Q : Int32 → MI → MJ → Prop) (I : MI) (J : MJ) : Prop :=
  f_Model_findLeast s1 (19 : Int32) I J (fun r114 I114 J114 => (if r114 = 0 then f_Model_join_b120 Q I114 J114 else f_Model_isAbove (18 : Int32) I114 J114 (fun r129 I129 J129 => (if r129 = 0 then f_Model_isAbove (19 : Int32) I129 J129 (fun r138 I138 J138 => (if r138 = 0 then (if x5 = 0 then f_Model_join_b182 x1 x4 Q I138 J138 else vp_in 19 20 ∧ vp_in 18 20 ∧ (if (I138 186 (19 : Int32).toNatClampNeg) ≤ (I138 186 (18 : Int32).toNatClampNeg) then f_Model_join_b182 x1 x4 Q I138 J138 else vp_in 19 20 ∧ f_Model_join_b189 x1 x4 (I138 186 (19 : Int32).toNatClampNeg) Q I138 J138)) else f_Model_join_b144 Q I138 J138)) else f_Model_join_b144 Q I129 J129))))
def f_Model_join_b77 (x1 : Int32) (x2 : Int32) (x3 : Int32) (x4 : Int32) (x5 : Int32) (Q : Int32 → MI → MJ → Prop) (I : MI) (J : MJ) : Prop :=
  f_Model_isPlace x4 I J (fun r79 I79 J79 => (if r79 = 0 then f_Model_refuse (2 : Int32) I79 J79 (fun r87 I87 J87 => Q r87 I87 J87) else f_Model_findLeast x2 (18 : Int32) I79 J79 (fun r95 I95 J95 => (if r95 = 0 then f_Model_join_b120 Q I95 J95 else (if x5 = 0 then f_Model_join_b112 x1 x4 x5 x2 Q I95 J95 else f_Model_join_b112 x1 x4 x5 x3 Q I95 J95)))))
def f_Model_join_b34 (x1 : Int32) (x2 : Int32) (x3 : Int32) (x4 : Int32) (s0 : Int32) (Q : Int32 → MI → MJ → Prop) (I : MI) (J : MJ) : Prop :=
  f_Model_noMachine x2 I J (fun r38 I38 J38 => (if r38 = 0 then (if s0 = 0 then f_Model_join_b77 x1 x2 x3 x4 s0 Q I38 J38 else f_Model_noMachine x3 I38 J38 (fun r61 I61 J61 => (if r61 = 0 then f_Model_join_b77 x1 x2 x3 x4 s0 Q I61 J61 else f_Model_noMachine x3 I61 J61 (fun r70 I70 J70 => f_Model_refuse r70 I70 J70 (fun r73 I73 J73 => Q r73 I73 J73))))) else f_Model_noMachine x2 I38 J38 (fun r47 I47 J47 => f_Model_refuse r47 I47 J47 (fun r50 I50 J50 => Q r50 I50 J50))))
def f_Model_join_b29 (x1 : Int32) (x2 : Int32) (x3 : Int32) (x4 : Int32) (Q : Int32 → MI → MJ → Prop) (I : MI) (J : MJ) : Prop :=
  f_Model_join_b34 x1 x2 x3 x4 1 Q I J
def f_Model_join_b9  (Q : Int32 → MI → MJ → Prop) (I : MI) (J : MJ) : Prop :=
  f_Model_refuse (2 : Int32) I J (fun r11 I11 J11 => Q r11 I11 J11)
def f_Model_join (x1 : Int32) (x2 : Int32) (x3 : Int32) (x4 : Int32) (I : MI) (J : MJ) (Q : Int32 → MI → MJ → Prop) : Prop :=
  (if x1 < 0 then f_Model_join_b9 Q I J else (if x1 ≤ 5 then (if x1 = 0 then f_Model_join_b29 x1 x2 x3 x4 Q I J else (if x1 = 1 then f_Model_join_b29 x1 x2 x3 x4 Q I J else (if x1 = 3 then f_Model_join_b29 x1 x2 x3 x4 Q I J else f_Model_join_b34 x1 x2 x3 x4 0 Q I J))) else f_Model_join_b9 Q I J))
set_option maxRecDepth 100000 in
set_option maxHeartbeats 4000000 in
theorem w_Model_join_b189 {Γ : Ctx} {Q : Int32 → MI → MJ → Prop} {x1 : Int32} {x4 : Int32} {s0 : Int32}  (X : Cx Γ cX11_join 8 RX11 5) (Y : Rt Γ (Pi Q) (Option.some Jvm.ClassFile.FieldType.int))   {I : MI} {J : MJ} (h : f_Model_join_b189 x1 x4 s0 Q I J) : Wp Γ 8 189 [(0, .ref (ad Γ 177)), (1, .int x1), (4, .int x4)] [.int s0] I J := by
  unfold f_Model_join_b189 at h
  refine wp_istore (L' := [(6, .int s0), (0, .ref (ad Γ 177)), (1, .int x1), (4, .int x4)]) X dX11_join_189 (by decide) rfl ?_
  refine wp_aload_n X dX11_join_191 1 rfl ?_
  refine wp_iload_n X dX11_join_192 2 rfl ?_
  refine wp_iload X dX11_join_193 0 rfl ?_
  refine cv_Model_findSets X dX11_join_195 ml_X11_326  h (Nat.le_of_ble_eq_true rfl) (by decide) (fun r195 I195 J195 h => ?_)
  refine wp_if_ne (tgt := 207) X dX11_join_198 (by decide) (fun hc => ?_) (fun hc => ?_)
  · have h := ite_f h hc
    refine wp_aload_n X dX11_join_207 1 rfl ?_
    refine wp_iload X dX11_join_208 0 rfl ?_
    refine cv_Model_findClasses X dX11_join_210 ml_X11_329  h (Nat.le_of_ble_eq_true rfl) (by decide) (fun r210 I210 J210 h => ?_)
    refine wp_istore (L' := [(7, .int r210), (6, .int s0), (0, .ref (ad Γ 177)), (1, .int x1), (4, .int x4)]) X dX11_join_213 (by decide) rfl ?_
    refine wp_iload X dX11_join_215 0 rfl ?_
    refine wp_bipush X dX11_join_217 bi_14 ?_
    refine wp_icmp_le (tgt := 230) X dX11_join_219 (by decide) (fun hc => ?_) (fun hc => ?_)
    · have h := ite_t h hc
      refine wp_aload_n X dX11_join_230 2 rfl ?_
      refine wp_iload X dX11_join_231 4 rfl ?_
      refine wp_iload X dX11_join_233 0 rfl ?_
      refine wp_iload X dX11_join_235 1 rfl ?_
      refine cv_Model_joinedAt X dX11_join_237 ml_X11_332  h (Nat.le_of_ble_eq_true rfl) (by decide) (fun r237 I237 J237 h => ?_)
      exact wp_iret X Y dX11_join_240 ⟨_, rfl, h⟩
    · have h := ite_f h hc
      refine wp_aload_n X dX11_join_222 2 rfl ?_
      refine wp_iconst X dX11_join_223 ic_5 ?_
      refine cv_Model_refuse X dX11_join_224 ml_X11_219  h (Nat.le_of_ble_eq_true rfl) (by decide) (fun r224 I224 J224 h => ?_)
      refine wp_goto (tgt := 240) X dX11_join_227 (by decide) ?_
      exact wp_iret X Y dX11_join_240 ⟨_, rfl, h⟩
  · have h := ite_t h hc
    refine wp_aload_n X dX11_join_201 1 rfl ?_
    refine wp_iconst X dX11_join_202 ic_5 ?_
    refine cv_Model_refuse X dX11_join_203 ml_X11_219  h (Nat.le_of_ble_eq_true rfl) (by decide) (fun r203 I203 J203 h => ?_)
    exact wp_iret X Y dX11_join_206 ⟨_, rfl, h⟩

set_option maxRecDepth 100000 in
set_option maxHeartbeats 4000000 in
theorem w_Model_join_b182 {Γ : Ctx} {Q : Int32 → MI → MJ → Prop} {x1 : Int32} {x4 : Int32}  (X : Cx Γ cX11_join 8 RX11 5) (Y : Rt Γ (Pi Q) (Option.some Jvm.ClassFile.FieldType.int))   {I : MI} {J : MJ} (h : f_Model_join_b182 x1 x4 Q I J) : Wp Γ 8 182 [(0, .ref (ad Γ 177)), (1, .int x1), (4, .int x4)] [] I J := by
  unfold f_Model_join_b182 at h
  refine wp_aload_n X dX11_join_182 0 rfl ?_
  refine gf_X11_36 (o' := 186) X sh_177 rfl dX11_join_183 ?_
  refine wp_bipush X dX11_join_186 bi_18 ?_
  obtain ⟨hb188, h⟩ := h
  refine wp_iald X sh_186 hb188 dX11_join_188 ?_
  exact w_Model_join_b189 X Y  h

set_option maxRecDepth 100000 in
set_option maxHeartbeats 4000000 in
theorem w_Model_join_b144 {Γ : Ctx} {Q : Int32 → MI → MJ → Prop}   (X : Cx Γ cX11_join 8 RX11 5) (Y : Rt Γ (Pi Q) (Option.some Jvm.ClassFile.FieldType.int))   {I : MI} {J : MJ} (h : f_Model_join_b144 Q I J) : Wp Γ 8 144 [(0, .ref (ad Γ 177))] [] I J := by
  unfold f_Model_join_b144 at h
  refine wp_aload_n X dX11_join_144 0 rfl ?_
  refine wp_iconst X dX11_join_145 ic_4 ?_
  refine cv_Model_refuse X dX11_join_146 ml_X11_219  h (Nat.le_of_ble_eq_true rfl) (by decide) (fun r146 I146 J146 h => ?_)
  exact wp_iret X Y dX11_join_149 ⟨_, rfl, h⟩

set_option maxRecDepth 100000 in
set_option maxHeartbeats 4000000 in
theorem w_Model_join_b120 {Γ : Ctx} {Q : Int32 → MI → MJ → Prop}   (X : Cx Γ cX11_join 8 RX11 5) (Y : Rt Γ (Pi Q) (Option.some Jvm.ClassFile.FieldType.int))   {I : MI} {J : MJ} (h : f_Model_join_b120 Q I J) : Wp Γ 8 120 [(0, .ref (ad Γ 177))] [] I J := by
  unfold f_Model_join_b120 at h
  refine wp_aload_n X dX11_join_120 0 rfl ?_
  refine wp_iconst X dX11_join_121 ic_5 ?_
  refine cv_Model_refuse X dX11_join_122 ml_X11_219  h (Nat.le_of_ble_eq_true rfl) (by decide) (fun r122 I122 J122 h => ?_)
  exact wp_iret X Y dX11_join_125 ⟨_, rfl, h⟩

set_option maxRecDepth 100000 in
set_option maxHeartbeats 4000000 in
theorem w_Model_join_b112 {Γ : Ctx} {Q : Int32 → MI → MJ → Prop} {x1 : Int32} {x4 : Int32} {x5 : Int32} {s1 : Int32}  (X : Cx Γ cX11_join 8 RX11 5) (Y : Rt Γ (Pi Q) (Option.some Jvm.ClassFile.FieldType.int))   {I : MI} {J : MJ} (h : f_Model_join_b112 x1 x4 x5 s1 Q I J) : Wp Γ 8 112 [(0, .ref (ad Γ 177)), (1, .int x1), (4, .int x4), (5, .int x5)] [.int s1, .ref (ad Γ 177)] I J := by
  unfold f_Model_join_b112 at h
  refine wp_bipush X dX11_join_112 bi_19 ?_
  refine cv_Model_findLeast X dX11_join_114 ml_X11_276  h (Nat.le_of_ble_eq_true rfl) (by decide) (fun r114 I114 J114 h => ?_)
  refine wp_if_ne (tgt := 126) X dX11_join_117 (by decide) (fun hc => ?_) (fun hc => ?_)
  · have h := ite_f h hc
    refine wp_aload_n X dX11_join_126 0 rfl ?_
    refine wp_bipush X dX11_join_127 bi_18 ?_
    refine cv_Model_isAbove X dX11_join_129 ml_X11_323  h (Nat.le_of_ble_eq_true rfl) (by decide) (fun r129 I129 J129 h => ?_)
    refine wp_if_ne (tgt := 144) X dX11_join_132 (by decide) (fun hc => ?_) (fun hc => ?_)
    · have h := ite_f h hc
      refine wp_sub X [0] rfl ?_
      exact w_Model_join_b144 X Y  h
    · have h := ite_t h hc
      refine wp_aload_n X dX11_join_135 0 rfl ?_
      refine wp_bipush X dX11_join_136 bi_19 ?_
      refine cv_Model_isAbove X dX11_join_138 ml_X11_323  h (Nat.le_of_ble_eq_true rfl) (by decide) (fun r138 I138 J138 h => ?_)
      refine wp_if_eq (tgt := 150) X dX11_join_141 (by decide) (fun hc => ?_) (fun hc => ?_)
      · have h := ite_t h hc
        refine wp_iload X dX11_join_150 3 rfl ?_
        refine wp_if_eq (tgt := 182) X dX11_join_152 (by decide) (fun hc => ?_) (fun hc => ?_)
        · have h := ite_t h hc
          refine wp_sub X [0, 1, 2] rfl ?_
          exact w_Model_join_b182 X Y  h
        · have h := ite_f h hc
          refine wp_aload_n X dX11_join_155 0 rfl ?_
          refine gf_X11_36 (o' := 186) X sh_177 rfl dX11_join_156 ?_
          refine wp_bipush X dX11_join_159 bi_19 ?_
          obtain ⟨hb161, h⟩ := h
          refine wp_iald X sh_186 hb161 dX11_join_161 ?_
          refine wp_aload_n X dX11_join_162 0 rfl ?_
          refine gf_X11_36 (o' := 186) X sh_177 rfl dX11_join_163 ?_
          refine wp_bipush X dX11_join_166 bi_18 ?_
          obtain ⟨hb168, h⟩ := h
          refine wp_iald X sh_186 hb168 dX11_join_168 ?_
          refine wp_icmp_le (tgt := 182) X dX11_join_169 (by decide) (fun hc => ?_) (fun hc => ?_)
          · have h := ite_t h hc
            refine wp_sub X [0, 1, 2] rfl ?_
            exact w_Model_join_b182 X Y  h
          · have h := ite_f h hc
            refine wp_aload_n X dX11_join_172 0 rfl ?_
            refine gf_X11_36 (o' := 186) X sh_177 rfl dX11_join_173 ?_
            refine wp_bipush X dX11_join_176 bi_19 ?_
            obtain ⟨hb178, h⟩ := h
            refine wp_iald X sh_186 hb178 dX11_join_178 ?_
            refine wp_goto (tgt := 189) X dX11_join_179 (by decide) ?_
            refine wp_sub X [0, 1, 2] rfl ?_
            exact w_Model_join_b189 X Y  h
      · have h := ite_f h hc
        refine wp_sub X [0] rfl ?_
        exact w_Model_join_b144 X Y  h
  · have h := ite_t h hc
    refine wp_sub X [0] rfl ?_
    exact w_Model_join_b120 X Y  h

set_option maxRecDepth 100000 in
set_option maxHeartbeats 4000000 in
theorem w_Model_join_b77 {Γ : Ctx} {Q : Int32 → MI → MJ → Prop} {x1 : Int32} {x2 : Int32} {x3 : Int32} {x4 : Int32} {x5 : Int32}  (X : Cx Γ cX11_join 8 RX11 5) (Y : Rt Γ (Pi Q) (Option.some Jvm.ClassFile.FieldType.int))   {I : MI} {J : MJ} (h : f_Model_join_b77 x1 x2 x3 x4 x5 Q I J) : Wp Γ 8 77 [(0, .ref (ad Γ 177)), (1, .int x1), (2, .int x2), (3, .int x3), (4, .int x4), (5, .int x5)] [] I J := by
  unfold f_Model_join_b77 at h
  refine wp_iload X dX11_join_77 4 rfl ?_
  refine cs_Model_isPlace X dX11_join_79 ml_X11_145  h (Nat.le_of_ble_eq_true rfl) (by decide) (fun r79 I79 J79 h => ?_)
  refine wp_if_ne (tgt := 91) X dX11_join_82 (by decide) (fun hc => ?_) (fun hc => ?_)
  · have h := ite_f h hc
    refine wp_aload_n X dX11_join_91 0 rfl ?_
    refine wp_iload_n X dX11_join_92 2 rfl ?_
    refine wp_bipush X dX11_join_93 bi_18 ?_
    refine cv_Model_findLeast X dX11_join_95 ml_X11_276  h (Nat.le_of_ble_eq_true rfl) (by decide) (fun r95 I95 J95 h => ?_)
    refine wp_if_eq (tgt := 120) X dX11_join_98 (by decide) (fun hc => ?_) (fun hc => ?_)
    · have h := ite_t h hc
      refine wp_sub X [0] rfl ?_
      exact w_Model_join_b120 X Y  h
    · have h := ite_f h hc
      refine wp_aload_n X dX11_join_101 0 rfl ?_
      refine wp_iload X dX11_join_102 5 rfl ?_
      refine wp_if_eq (tgt := 111) X dX11_join_104 (by decide) (fun hc => ?_) (fun hc => ?_)
      · have h := ite_t h hc
        refine wp_iload_n X dX11_join_111 2 rfl ?_
        refine wp_sub X [0, 1, 4, 5] rfl ?_
        exact w_Model_join_b112 X Y  h
      · have h := ite_f h hc
        refine wp_iload_n X dX11_join_107 3 rfl ?_
        refine wp_goto (tgt := 112) X dX11_join_108 (by decide) ?_
        refine wp_sub X [0, 1, 4, 5] rfl ?_
        exact w_Model_join_b112 X Y  h
  · have h := ite_t h hc
    refine wp_aload_n X dX11_join_85 0 rfl ?_
    refine wp_iconst X dX11_join_86 ic_2 ?_
    refine cv_Model_refuse X dX11_join_87 ml_X11_219  h (Nat.le_of_ble_eq_true rfl) (by decide) (fun r87 I87 J87 h => ?_)
    exact wp_iret X Y dX11_join_90 ⟨_, rfl, h⟩

set_option maxRecDepth 100000 in
set_option maxHeartbeats 4000000 in
theorem w_Model_join_b34 {Γ : Ctx} {Q : Int32 → MI → MJ → Prop} {x1 : Int32} {x2 : Int32} {x3 : Int32} {x4 : Int32} {s0 : Int32}  (X : Cx Γ cX11_join 8 RX11 5) (Y : Rt Γ (Pi Q) (Option.some Jvm.ClassFile.FieldType.int))   {I : MI} {J : MJ} (h : f_Model_join_b34 x1 x2 x3 x4 s0 Q I J) : Wp Γ 8 34 [(0, .ref (ad Γ 177)), (1, .int x1), (2, .int x2), (3, .int x3), (4, .int x4)] [.int s0] I J := by
  unfold f_Model_join_b34 at h
  refine wp_istore (L' := [(5, .int s0), (0, .ref (ad Γ 177)), (1, .int x1), (2, .int x2), (3, .int x3), (4, .int x4)]) X dX11_join_34 (by decide) rfl ?_
  refine wp_aload_n X dX11_join_36 1 rfl ?_
  refine wp_iload_n X dX11_join_37 3 rfl ?_
  refine cv_Model_noMachine X dX11_join_38 ml_X11_222  h (Nat.le_of_ble_eq_true rfl) (by decide) (fun r38 I38 J38 h => ?_)
  refine wp_if_eq (tgt := 54) X dX11_join_41 (by decide) (fun hc => ?_) (fun hc => ?_)
  · have h := ite_t h hc
    refine wp_iload X dX11_join_54 0 rfl ?_
    refine wp_if_eq (tgt := 77) X dX11_join_56 (by decide) (fun hc => ?_) (fun hc => ?_)
    · have h := ite_t h hc
      refine wp_sub X [1, 2, 3, 4, 5, 0] rfl ?_
      exact w_Model_join_b77 X Y  h
    · have h := ite_f h hc
      refine wp_aload_n X dX11_join_59 1 rfl ?_
      refine wp_iload_n X dX11_join_60 4 rfl ?_
      refine cv_Model_noMachine X dX11_join_61 ml_X11_222  h (Nat.le_of_ble_eq_true rfl) (by decide) (fun r61 I61 J61 h => ?_)
      refine wp_if_eq (tgt := 77) X dX11_join_64 (by decide) (fun hc => ?_) (fun hc => ?_)
      · have h := ite_t h hc
        refine wp_sub X [1, 2, 3, 4, 5, 0] rfl ?_
        exact w_Model_join_b77 X Y  h
      · have h := ite_f h hc
        refine wp_aload_n X dX11_join_67 1 rfl ?_
        refine wp_aload_n X dX11_join_68 1 rfl ?_
        refine wp_iload_n X dX11_join_69 4 rfl ?_
        refine cv_Model_noMachine X dX11_join_70 ml_X11_222  h (Nat.le_of_ble_eq_true rfl) (by decide) (fun r70 I70 J70 h => ?_)
        refine cv_Model_refuse X dX11_join_73 ml_X11_219  h (Nat.le_of_ble_eq_true rfl) (by decide) (fun r73 I73 J73 h => ?_)
        exact wp_iret X Y dX11_join_76 ⟨_, rfl, h⟩
  · have h := ite_f h hc
    refine wp_aload_n X dX11_join_44 1 rfl ?_
    refine wp_aload_n X dX11_join_45 1 rfl ?_
    refine wp_iload_n X dX11_join_46 3 rfl ?_
    refine cv_Model_noMachine X dX11_join_47 ml_X11_222  h (Nat.le_of_ble_eq_true rfl) (by decide) (fun r47 I47 J47 h => ?_)
    refine cv_Model_refuse X dX11_join_50 ml_X11_219  h (Nat.le_of_ble_eq_true rfl) (by decide) (fun r50 I50 J50 h => ?_)
    exact wp_iret X Y dX11_join_53 ⟨_, rfl, h⟩

set_option maxRecDepth 100000 in
set_option maxHeartbeats 4000000 in
theorem w_Model_join_b29 {Γ : Ctx} {Q : Int32 → MI → MJ → Prop} {x1 : Int32} {x2 : Int32} {x3 : Int32} {x4 : Int32}  (X : Cx Γ cX11_join 8 RX11 5) (Y : Rt Γ (Pi Q) (Option.some Jvm.ClassFile.FieldType.int))   {I : MI} {J : MJ} (h : f_Model_join_b29 x1 x2 x3 x4 Q I J) : Wp Γ 8 29 [(0, .ref (ad Γ 177)), (1, .int x1), (2, .int x2), (3, .int x3), (4, .int x4)] [] I J := by
  unfold f_Model_join_b29 at h
  refine wp_iconst X dX11_join_29 ic_1 ?_
  refine wp_goto (tgt := 34) X dX11_join_30 (by decide) ?_
  exact w_Model_join_b34 X Y  h

set_option maxRecDepth 100000 in
set_option maxHeartbeats 4000000 in
theorem w_Model_join_b9 {Γ : Ctx} {Q : Int32 → MI → MJ → Prop}   (X : Cx Γ cX11_join 8 RX11 5) (Y : Rt Γ (Pi Q) (Option.some Jvm.ClassFile.FieldType.int))   {I : MI} {J : MJ} (h : f_Model_join_b9 Q I J) : Wp Γ 8 9 [(0, .ref (ad Γ 177))] [] I J := by
  unfold f_Model_join_b9 at h
  refine wp_aload_n X dX11_join_9 0 rfl ?_
  refine wp_iconst X dX11_join_10 ic_2 ?_
  refine cv_Model_refuse X dX11_join_11 ml_X11_219  h (Nat.le_of_ble_eq_true rfl) (by decide) (fun r11 I11 J11 h => ?_)
  exact wp_iret X Y dX11_join_14 ⟨_, rfl, h⟩

set_option maxRecDepth 100000 in
set_option maxHeartbeats 4000000 in
theorem w_Model_join_b0 {Γ : Ctx} {Q : Int32 → MI → MJ → Prop} {x1 : Int32} {x2 : Int32} {x3 : Int32} {x4 : Int32}  (X : Cx Γ cX11_join 8 RX11 5) (Y : Rt Γ (Pi Q) (Option.some Jvm.ClassFile.FieldType.int))   {I : MI} {J : MJ} (h : f_Model_join x1 x2 x3 x4 I J Q) : Wp Γ 8 0 [(0, .ref (ad Γ 177)), (1, .int x1), (2, .int x2), (3, .int x3), (4, .int x4)] [] I J := by
  unfold f_Model_join at h
  refine wp_iload_n X dX11_join_0 1 rfl ?_
  refine wp_if_lt (tgt := 9) X dX11_join_1 (by decide) (fun hc => ?_) (fun hc => ?_)
  · have h := ite_t h hc
    refine wp_sub X [0] rfl ?_
    exact w_Model_join_b9 X Y  h
  · have h := ite_f h hc
    refine wp_iload_n X dX11_join_4 1 rfl ?_
    refine wp_iconst X dX11_join_5 ic_5 ?_
    refine wp_icmp_le (tgt := 15) X dX11_join_6 (by decide) (fun hc => ?_) (fun hc => ?_)
    · have h := ite_t h hc
      refine wp_iload_n X dX11_join_15 1 rfl ?_
      refine wp_if_eq (tgt := 29) X dX11_join_16 (by decide) (fun hc => ?_) (fun hc => ?_)
      · have h := ite_t h hc
        exact w_Model_join_b29 X Y  h
      · have h := ite_f h hc
        refine wp_iload_n X dX11_join_19 1 rfl ?_
        refine wp_iconst X dX11_join_20 ic_1 ?_
        refine wp_icmp_eq (tgt := 29) X dX11_join_21 (by decide) (fun hc => ?_) (fun hc => ?_)
        · have h := ite_t h hc
          exact w_Model_join_b29 X Y  h
        · have h := ite_f h hc
          refine wp_iload_n X dX11_join_24 1 rfl ?_
          refine wp_iconst X dX11_join_25 ic_3 ?_
          refine wp_icmp_ne (tgt := 33) X dX11_join_26 (by decide) (fun hc => ?_) (fun hc => ?_)
          · have h := ite_f h hc
            refine wp_iconst X dX11_join_33 ic_0 ?_
            exact w_Model_join_b34 X Y  h
          · have h := ite_t h hc
            exact w_Model_join_b29 X Y  h
    · have h := ite_f h hc
      refine wp_sub X [0] rfl ?_
      exact w_Model_join_b9 X Y  h

theorem c_Model_join {l : Launch} {g : GE} (hg : Inj g) {I : MI} {J : MJ} {Q : Int32 → MI → MJ → Prop} {x1 : Int32} {x2 : Int32} {x3 : Int32} {x4 : Int32}  (h : f_Model_join x1 x2 x3 x4 I J Q) : Cm l g yX11_join cX11_join 8 (Option.some Jvm.ClassFile.FieldType.int) 5 [.ref (g.1 177), .int x1, .int x2, .int x3, .int x4] I J (Pi Q) := by
  refine Cm.of (As := fun ad => [.ref (ad 177), .int x1, .int x2, .int x3, .int x4]) hg pn_X11 (Nat.le_of_ble_eq_true rfl) ?_
  exact (fun Γ _ _ X Y => w_Model_join_b0 X Y  h)
theorem cv_Model_join {Γ : Ctx} {cc : ByteArray} {nL d pc index : Nat} {own : String} {L : List (Nat × Value)} {rest : List Value} {I : MI} {J : MJ} {Q : Int32 → MI → MJ → Prop} {x1 : Int32} {x2 : Int32} {x3 : Int32} {x4 : Int32} (X : Cx Γ cc nL own d) (hd : decode cc pc = .ok (.invokevirtual index, 3)) (hlink : Cond.methodLink own index yX11_join ∈ TT)  (h : f_Model_join x1 x2 x3 x4 I J Q) (hrest : (rest.map fun v => v.category).sum ≤ 8) (hdd : 5 + 1 ≤ d) (kk : ∀ (r : Int32) (I' : MI) (J' : MJ), Q r I' J' → Wp Γ nL (pc + 3) L (.int r :: rest) I' J') : Wp Γ nL pc L (.int x4 :: .int x3 :: .int x2 :: .int x1 :: .ref (ad Γ 177) :: rest) I J :=
  wp_callV (As := [.int x1, .int x2, .int x3, .int x4]) (rest := rest) (T := TX11) (N := 62) X hd hlink mv_X11_join sh_177 (by decide) rfl (c_Model_join X.inj  h) rfl rfl hrest hdd (fun v I' J' hv => by obtain ⟨r, rfl, hq⟩ := hv; exact kk r I' J' hq)
theorem dX11_findParts_0 : decode cX11_findParts 0 = .ok (.aload_n 0, 1) := by decide +kernel
theorem dX11_findParts_1 : decode cX11_findParts 1 = .ok (.iconst 0, 1) := by decide +kernel
theorem dX11_findParts_2 : decode cX11_findParts 2 = .ok (.putfield 335, 3) := by decide +kernel
theorem dX11_findParts_5 : decode cX11_findParts 5 = .ok (.aload_n 0, 1) := by decide +kernel
theorem dX11_findParts_6 : decode cX11_findParts 6 = .ok (.iconst 0, 1) := by decide +kernel
theorem dX11_findParts_7 : decode cX11_findParts 7 = .ok (.putfield 338, 3) := by decide +kernel
theorem dX11_findParts_10 : decode cX11_findParts 10 = .ok (.aload_n 0, 1) := by decide +kernel
theorem dX11_findParts_11 : decode cX11_findParts 11 = .ok (.iconst 0, 1) := by decide +kernel
theorem dX11_findParts_12 : decode cX11_findParts 12 = .ok (.putfield 341, 3) := by decide +kernel
theorem dX11_findParts_15 : decode cX11_findParts 15 = .ok (.aload_n 0, 1) := by decide +kernel
theorem dX11_findParts_16 : decode cX11_findParts 16 = .ok (.getfield 33, 3) := by decide +kernel
theorem dX11_findParts_19 : decode cX11_findParts 19 = .ok (.bipush 18, 2) := by decide +kernel
theorem dX11_findParts_21 : decode cX11_findParts 21 = .ok (.iaload, 1) := by decide +kernel
theorem dX11_findParts_22 : decode cX11_findParts 22 = .ok (.istore_n 2, 1) := by decide +kernel
theorem dX11_findParts_23 : decode cX11_findParts 23 = .ok (.aload_n 0, 1) := by decide +kernel
theorem dX11_findParts_24 : decode cX11_findParts 24 = .ok (.getfield 36, 3) := by decide +kernel
theorem dX11_findParts_27 : decode cX11_findParts 27 = .ok (.bipush 18, 2) := by decide +kernel
theorem dX11_findParts_29 : decode cX11_findParts 29 = .ok (.iaload, 1) := by decide +kernel
theorem dX11_findParts_30 : decode cX11_findParts 30 = .ok (.istore_n 3, 1) := by decide +kernel
theorem dX11_findParts_31 : decode cX11_findParts 31 = .ok (.iconst 0, 1) := by decide +kernel
theorem dX11_findParts_32 : decode cX11_findParts 32 = .ok (.istore 4, 2) := by decide +kernel
theorem dX11_findParts_34 : decode cX11_findParts 34 = .ok (.iload 4, 2) := by decide +kernel
theorem dX11_findParts_36 : decode cX11_findParts 36 = .ok (.iload_n 2, 1) := by decide +kernel
theorem dX11_findParts_37 : decode cX11_findParts 37 = .ok (.if_icmp .ge 92, 3) := by decide +kernel
theorem dX11_findParts_40 : decode cX11_findParts 40 = .ok (.aload_n 0, 1) := by decide +kernel
theorem dX11_findParts_41 : decode cX11_findParts 41 = .ok (.getfield 114, 3) := by decide +kernel
theorem dX11_findParts_44 : decode cX11_findParts 44 = .ok (.aload_n 0, 1) := by decide +kernel
theorem dX11_findParts_45 : decode cX11_findParts 45 = .ok (.getfield 335, 3) := by decide +kernel
theorem dX11_findParts_48 : decode cX11_findParts 48 = .ok (.aload_n 0, 1) := by decide +kernel
theorem dX11_findParts_49 : decode cX11_findParts 49 = .ok (.getfield 69, 3) := by decide +kernel
theorem dX11_findParts_52 : decode cX11_findParts 52 = .ok (.sipush 252, 3) := by decide +kernel
theorem dX11_findParts_55 : decode cX11_findParts 55 = .ok (.iload 4, 2) := by decide +kernel
theorem dX11_findParts_57 : decode cX11_findParts 57 = .ok (.iadd, 1) := by decide +kernel
theorem dX11_findParts_58 : decode cX11_findParts 58 = .ok (.laload, 1) := by decide +kernel
theorem dX11_findParts_59 : decode cX11_findParts 59 = .ok (.lastore, 1) := by decide +kernel
theorem dX11_findParts_60 : decode cX11_findParts 60 = .ok (.aload_n 0, 1) := by decide +kernel
theorem dX11_findParts_61 : decode cX11_findParts 61 = .ok (.dup, 1) := by decide +kernel
theorem dX11_findParts_62 : decode cX11_findParts 62 = .ok (.getfield 335, 3) := by decide +kernel
theorem dX11_findParts_65 : decode cX11_findParts 65 = .ok (.iconst 1, 1) := by decide +kernel
theorem dX11_findParts_66 : decode cX11_findParts 66 = .ok (.iadd, 1) := by decide +kernel
theorem dX11_findParts_67 : decode cX11_findParts 67 = .ok (.putfield 335, 3) := by decide +kernel
theorem dX11_findParts_70 : decode cX11_findParts 70 = .ok (.iconst 0, 1) := by decide +kernel
theorem dX11_findParts_71 : decode cX11_findParts 71 = .ok (.istore 5, 2) := by decide +kernel
theorem dX11_findParts_73 : decode cX11_findParts 73 = .ok (.iload 5, 2) := by decide +kernel
theorem dX11_findParts_75 : decode cX11_findParts 75 = .ok (.iload_n 3, 1) := by decide +kernel
theorem dX11_findParts_76 : decode cX11_findParts 76 = .ok (.if_icmp .ge 47, 3) := by decide +kernel
theorem dX11_findParts_79 : decode cX11_findParts 79 = .ok (.aload_n 0, 1) := by decide +kernel
theorem dX11_findParts_80 : decode cX11_findParts 80 = .ok (.getfield 114, 3) := by decide +kernel
theorem dX11_findParts_83 : decode cX11_findParts 83 = .ok (.aload_n 0, 1) := by decide +kernel
theorem dX11_findParts_84 : decode cX11_findParts 84 = .ok (.getfield 335, 3) := by decide +kernel
theorem dX11_findParts_87 : decode cX11_findParts 87 = .ok (.ldc2_w 197, 3) := by decide +kernel
theorem dX11_findParts_90 : decode cX11_findParts 90 = .ok (.aload_n 0, 1) := by decide +kernel
theorem dX11_findParts_91 : decode cX11_findParts 91 = .ok (.getfield 69, 3) := by decide +kernel
theorem dX11_findParts_94 : decode cX11_findParts 94 = .ok (.sipush 252, 3) := by decide +kernel
theorem dX11_findParts_97 : decode cX11_findParts 97 = .ok (.iload 4, 2) := by decide +kernel
theorem dX11_findParts_99 : decode cX11_findParts 99 = .ok (.iadd, 1) := by decide +kernel
theorem dX11_findParts_100 : decode cX11_findParts 100 = .ok (.laload, 1) := by decide +kernel
theorem dX11_findParts_101 : decode cX11_findParts 101 = .ok (.lmul, 1) := by decide +kernel
theorem dX11_findParts_102 : decode cX11_findParts 102 = .ok (.iload 5, 2) := by decide +kernel
theorem dX11_findParts_104 : decode cX11_findParts 104 = .ok (.i2l, 1) := by decide +kernel
theorem dX11_findParts_105 : decode cX11_findParts 105 = .ok (.ladd, 1) := by decide +kernel
theorem dX11_findParts_106 : decode cX11_findParts 106 = .ok (.lastore, 1) := by decide +kernel
theorem dX11_findParts_107 : decode cX11_findParts 107 = .ok (.aload_n 0, 1) := by decide +kernel
theorem dX11_findParts_108 : decode cX11_findParts 108 = .ok (.dup, 1) := by decide +kernel
theorem dX11_findParts_109 : decode cX11_findParts 109 = .ok (.getfield 335, 3) := by decide +kernel
theorem dX11_findParts_112 : decode cX11_findParts 112 = .ok (.iconst 1, 1) := by decide +kernel
theorem dX11_findParts_113 : decode cX11_findParts 113 = .ok (.iadd, 1) := by decide +kernel
theorem dX11_findParts_114 : decode cX11_findParts 114 = .ok (.putfield 335, 3) := by decide +kernel
theorem dX11_findParts_117 : decode cX11_findParts 117 = .ok (.iinc 5 1, 3) := by decide +kernel
theorem dX11_findParts_120 : decode cX11_findParts 120 = .ok (.goto (-47), 3) := by decide +kernel
theorem dX11_findParts_123 : decode cX11_findParts 123 = .ok (.iinc 4 1, 3) := by decide +kernel
theorem dX11_findParts_126 : decode cX11_findParts 126 = .ok (.goto (-92), 3) := by decide +kernel
theorem dX11_findParts_129 : decode cX11_findParts 129 = .ok (.aload_n 0, 1) := by decide +kernel
theorem dX11_findParts_130 : decode cX11_findParts 130 = .ok (.getfield 117, 3) := by decide +kernel
theorem dX11_findParts_133 : decode cX11_findParts 133 = .ok (.iconst 0, 1) := by decide +kernel
theorem dX11_findParts_134 : decode cX11_findParts 134 = .ok (.lconst 1, 1) := by decide +kernel
theorem dX11_findParts_135 : decode cX11_findParts 135 = .ok (.lastore, 1) := by decide +kernel
theorem dX11_findParts_136 : decode cX11_findParts 136 = .ok (.aload_n 0, 1) := by decide +kernel
theorem dX11_findParts_137 : decode cX11_findParts 137 = .ok (.iconst 1, 1) := by decide +kernel
theorem dX11_findParts_138 : decode cX11_findParts 138 = .ok (.putfield 338, 3) := by decide +kernel
theorem dX11_findParts_141 : decode cX11_findParts 141 = .ok (.iconst 0, 1) := by decide +kernel
theorem dX11_findParts_142 : decode cX11_findParts 142 = .ok (.istore 4, 2) := by decide +kernel
theorem dX11_findParts_144 : decode cX11_findParts 144 = .ok (.iconst 0, 1) := by decide +kernel
theorem dX11_findParts_145 : decode cX11_findParts 145 = .ok (.istore 5, 2) := by decide +kernel
theorem dX11_findParts_147 : decode cX11_findParts 147 = .ok (.iload 5, 2) := by decide +kernel
theorem dX11_findParts_149 : decode cX11_findParts 149 = .ok (.iload_n 1, 1) := by decide +kernel
theorem dX11_findParts_150 : decode cX11_findParts 150 = .ok (.if_icmp .ge 85, 3) := by decide +kernel
theorem dX11_findParts_153 : decode cX11_findParts 153 = .ok (.aload_n 0, 1) := by decide +kernel
theorem dX11_findParts_154 : decode cX11_findParts 154 = .ok (.getfield 338, 3) := by decide +kernel
theorem dX11_findParts_157 : decode cX11_findParts 157 = .ok (.istore 6, 2) := by decide +kernel
theorem dX11_findParts_159 : decode cX11_findParts 159 = .ok (.iload 4, 2) := by decide +kernel
theorem dX11_findParts_161 : decode cX11_findParts 161 = .ok (.istore 7, 2) := by decide +kernel
theorem dX11_findParts_163 : decode cX11_findParts 163 = .ok (.iload 7, 2) := by decide +kernel
theorem dX11_findParts_165 : decode cX11_findParts 165 = .ok (.iload 6, 2) := by decide +kernel
theorem dX11_findParts_167 : decode cX11_findParts 167 = .ok (.if_icmp .ge 58, 3) := by decide +kernel
theorem dX11_findParts_170 : decode cX11_findParts 170 = .ok (.iconst 0, 1) := by decide +kernel
theorem dX11_findParts_171 : decode cX11_findParts 171 = .ok (.istore 8, 2) := by decide +kernel
theorem dX11_findParts_173 : decode cX11_findParts 173 = .ok (.iload 8, 2) := by decide +kernel
theorem dX11_findParts_175 : decode cX11_findParts 175 = .ok (.iload_n 3, 1) := by decide +kernel
theorem dX11_findParts_176 : decode cX11_findParts 176 = .ok (.if_icmp .ge 43, 3) := by decide +kernel
theorem dX11_findParts_179 : decode cX11_findParts 179 = .ok (.aload_n 0, 1) := by decide +kernel
theorem dX11_findParts_180 : decode cX11_findParts 180 = .ok (.getfield 117, 3) := by decide +kernel
theorem dX11_findParts_183 : decode cX11_findParts 183 = .ok (.aload_n 0, 1) := by decide +kernel
theorem dX11_findParts_184 : decode cX11_findParts 184 = .ok (.getfield 338, 3) := by decide +kernel
theorem dX11_findParts_187 : decode cX11_findParts 187 = .ok (.ldc2_w 197, 3) := by decide +kernel
theorem dX11_findParts_190 : decode cX11_findParts 190 = .ok (.aload_n 0, 1) := by decide +kernel
theorem dX11_findParts_191 : decode cX11_findParts 191 = .ok (.getfield 117, 3) := by decide +kernel
theorem dX11_findParts_194 : decode cX11_findParts 194 = .ok (.iload 7, 2) := by decide +kernel
theorem dX11_findParts_196 : decode cX11_findParts 196 = .ok (.laload, 1) := by decide +kernel
theorem dX11_findParts_197 : decode cX11_findParts 197 = .ok (.lmul, 1) := by decide +kernel
theorem dX11_findParts_198 : decode cX11_findParts 198 = .ok (.iload 8, 2) := by decide +kernel
theorem dX11_findParts_200 : decode cX11_findParts 200 = .ok (.i2l, 1) := by decide +kernel
theorem dX11_findParts_201 : decode cX11_findParts 201 = .ok (.ladd, 1) := by decide +kernel
theorem dX11_findParts_202 : decode cX11_findParts 202 = .ok (.lastore, 1) := by decide +kernel
theorem dX11_findParts_203 : decode cX11_findParts 203 = .ok (.aload_n 0, 1) := by decide +kernel
theorem dX11_findParts_204 : decode cX11_findParts 204 = .ok (.dup, 1) := by decide +kernel
theorem dX11_findParts_205 : decode cX11_findParts 205 = .ok (.getfield 338, 3) := by decide +kernel
theorem dX11_findParts_208 : decode cX11_findParts 208 = .ok (.iconst 1, 1) := by decide +kernel
theorem dX11_findParts_209 : decode cX11_findParts 209 = .ok (.iadd, 1) := by decide +kernel
theorem dX11_findParts_210 : decode cX11_findParts 210 = .ok (.putfield 338, 3) := by decide +kernel
theorem dX11_findParts_213 : decode cX11_findParts 213 = .ok (.iinc 8 1, 3) := by decide +kernel
theorem dX11_findParts_216 : decode cX11_findParts 216 = .ok (.goto (-43), 3) := by decide +kernel
theorem dX11_findParts_219 : decode cX11_findParts 219 = .ok (.iinc 7 1, 3) := by decide +kernel
theorem dX11_findParts_222 : decode cX11_findParts 222 = .ok (.goto (-59), 3) := by decide +kernel
theorem dX11_findParts_225 : decode cX11_findParts 225 = .ok (.iload 6, 2) := by decide +kernel
theorem dX11_findParts_227 : decode cX11_findParts 227 = .ok (.istore 4, 2) := by decide +kernel
theorem dX11_findParts_229 : decode cX11_findParts 229 = .ok (.iinc 5 1, 3) := by decide +kernel
theorem dX11_findParts_232 : decode cX11_findParts 232 = .ok (.goto (-85), 3) := by decide +kernel
theorem dX11_findParts_235 : decode cX11_findParts 235 = .ok (.aload_n 0, 1) := by decide +kernel
theorem dX11_findParts_236 : decode cX11_findParts 236 = .ok (.getfield 120, 3) := by decide +kernel
theorem dX11_findParts_239 : decode cX11_findParts 239 = .ok (.iconst 0, 1) := by decide +kernel
theorem dX11_findParts_240 : decode cX11_findParts 240 = .ok (.lconst 1, 1) := by decide +kernel
theorem dX11_findParts_241 : decode cX11_findParts 241 = .ok (.lastore, 1) := by decide +kernel
theorem dX11_findParts_242 : decode cX11_findParts 242 = .ok (.aload_n 0, 1) := by decide +kernel
theorem dX11_findParts_243 : decode cX11_findParts 243 = .ok (.iconst 1, 1) := by decide +kernel
theorem dX11_findParts_244 : decode cX11_findParts 244 = .ok (.putfield 341, 3) := by decide +kernel
theorem dX11_findParts_247 : decode cX11_findParts 247 = .ok (.iconst 0, 1) := by decide +kernel
theorem dX11_findParts_248 : decode cX11_findParts 248 = .ok (.istore 5, 2) := by decide +kernel
theorem dX11_findParts_250 : decode cX11_findParts 250 = .ok (.iload 5, 2) := by decide +kernel
theorem dX11_findParts_252 : decode cX11_findParts 252 = .ok (.iload_n 2, 1) := by decide +kernel
theorem dX11_findParts_253 : decode cX11_findParts 253 = .ok (.if_icmp .ge 56, 3) := by decide +kernel
theorem dX11_findParts_256 : decode cX11_findParts 256 = .ok (.iconst 0, 1) := by decide +kernel
theorem dX11_findParts_257 : decode cX11_findParts 257 = .ok (.istore 6, 2) := by decide +kernel
theorem dX11_findParts_259 : decode cX11_findParts 259 = .ok (.iload 6, 2) := by decide +kernel
theorem dX11_findParts_261 : decode cX11_findParts 261 = .ok (.iload 5, 2) := by decide +kernel
theorem dX11_findParts_263 : decode cX11_findParts 263 = .ok (.if_icmp .ge 40, 3) := by decide +kernel
theorem dX11_findParts_266 : decode cX11_findParts 266 = .ok (.aload_n 0, 1) := by decide +kernel
theorem dX11_findParts_267 : decode cX11_findParts 267 = .ok (.getfield 120, 3) := by decide +kernel
theorem dX11_findParts_270 : decode cX11_findParts 270 = .ok (.aload_n 0, 1) := by decide +kernel
theorem dX11_findParts_271 : decode cX11_findParts 271 = .ok (.getfield 341, 3) := by decide +kernel
theorem dX11_findParts_274 : decode cX11_findParts 274 = .ok (.aload_n 0, 1) := by decide +kernel
theorem dX11_findParts_275 : decode cX11_findParts 275 = .ok (.bipush 18, 2) := by decide +kernel
theorem dX11_findParts_277 : decode cX11_findParts 277 = .ok (.iload 5, 2) := by decide +kernel
theorem dX11_findParts_279 : decode cX11_findParts 279 = .ok (.bipush 18, 2) := by decide +kernel
theorem dX11_findParts_281 : decode cX11_findParts 281 = .ok (.iload 6, 2) := by decide +kernel
theorem dX11_findParts_283 : decode cX11_findParts 283 = .ok (.invokevirtual 279, 3) := by decide +kernel
theorem dX11_findParts_286 : decode cX11_findParts 286 = .ok (.lastore, 1) := by decide +kernel
theorem dX11_findParts_287 : decode cX11_findParts 287 = .ok (.aload_n 0, 1) := by decide +kernel
theorem dX11_findParts_288 : decode cX11_findParts 288 = .ok (.dup, 1) := by decide +kernel
theorem dX11_findParts_289 : decode cX11_findParts 289 = .ok (.getfield 341, 3) := by decide +kernel
theorem dX11_findParts_292 : decode cX11_findParts 292 = .ok (.iconst 1, 1) := by decide +kernel
theorem dX11_findParts_293 : decode cX11_findParts 293 = .ok (.iadd, 1) := by decide +kernel
theorem dX11_findParts_294 : decode cX11_findParts 294 = .ok (.putfield 341, 3) := by decide +kernel
theorem dX11_findParts_297 : decode cX11_findParts 297 = .ok (.iinc 6 1, 3) := by decide +kernel
theorem dX11_findParts_300 : decode cX11_findParts 300 = .ok (.goto (-41), 3) := by decide +kernel
theorem dX11_findParts_303 : decode cX11_findParts 303 = .ok (.iinc 5 1, 3) := by decide +kernel
theorem dX11_findParts_306 : decode cX11_findParts 306 = .ok (.goto (-56), 3) := by decide +kernel
theorem dX11_findParts_309 : decode cX11_findParts 309 = .ok (.return_, 1) := by decide +kernel
def f_Model_findParts_L259 (x5 : Int32) (k303 : MI → MJ → Prop) : Nat → Int32 → MI → MJ → Prop
  | 0, _, _, _ => False
  | nf259 + 1, x6, I, J =>
  (if x5 ≤ x6 then k303 I J else f_Model_difference (18 : Int32) x5 (18 : Int32) x6 I J (fun r283 I283 J283 => vp_in (I 177 48) 16 ∧ ∀ J286 : MJ, J286 = sJ J283 214 (vp_updL (J283 214) (I 177 48).toNatClampNeg r283) → ∀ I294 : MI, I294 = sI I283 177 (upd (I283 177) 48 ((I283 177 48) + 1)) → ∀ t297 : Int32, t297 = x6 + 1 → f_Model_findParts_L259 x5 k303 nf259 t297 I294 J286))
def f_Model_findParts_L250 (x2 : Int32) (k309 : MI → MJ → Prop) : Nat → Int32 → MI → MJ → Prop
  | 0, _, _, _ => False
  | nf250 + 1, x5, I, J =>
  (if x2 ≤ x5 then k309 I J else ∃ n, f_Model_findParts_L259 x5 (fun (I : MI) (J : MJ) => ∀ t303 : Int32, t303 = x5 + 1 → f_Model_findParts_L250 x2 k309 nf250 t303 I J) n 0 I J)
def f_Model_findParts_L173 (x3 : Int32) (x7 : Int32) (k219 : MI → MJ → Prop) : Nat → Int32 → MI → MJ → Prop
  | 0, _, _, _ => False
  | nf173 + 1, x8, I, J =>
  (if x3 ≤ x8 then k219 I J else vp_in x7 16 ∧ vp_in (I 177 47) 16 ∧ ∀ J202 : MJ, J202 = sJ J 213 (vp_updL (J 213) (I 177 47).toNatClampNeg ((4 * (J 213 x7.toNatClampNeg)) + x8.toInt64)) → ∀ I210 : MI, I210 = sI I 177 (upd (I 177) 47 ((I 177 47) + 1)) → ∀ t213 : Int32, t213 = x8 + 1 → f_Model_findParts_L173 x3 x7 k219 nf173 t213 I210 J202)
def f_Model_findParts_L163 (x3 : Int32) (x6 : Int32) (k225 : MI → MJ → Prop) : Nat → Int32 → MI → MJ → Prop
  | 0, _, _, _ => False
  | nf163 + 1, x7, I, J =>
  (if x6 ≤ x7 then k225 I J else ∃ n, f_Model_findParts_L173 x3 x7 (fun (I : MI) (J : MJ) => ∀ t219 : Int32, t219 = x7 + 1 → f_Model_findParts_L163 x3 x6 k225 nf163 t219 I J) n 0 I J)
def f_Model_findParts_L147 (x1 : Int32) (x3 : Int32) (k235 : MI → MJ → Prop) : Nat → Int32 → Int32 → MI → MJ → Prop
  | 0, _, _, _, _ => False
  | nf147 + 1, x4, x5, I, J =>
  (if x1 ≤ x5 then k235 I J else ∀ t157 : Int32, t157 = I 177 47 → ∃ n, f_Model_findParts_L163 x3 t157 (fun (I : MI) (J : MJ) => ∀ t229 : Int32, t229 = x5 + 1 → f_Model_findParts_L147 x1 x3 k235 nf147 t157 t229 I J) n x4 I J)
def f_Model_findParts_L73 (x3 : Int32) (x4 : Int32) (k123 : MI → MJ → Prop) : Nat → Int32 → MI → MJ → Prop
  | 0, _, _, _ => False
  | nf73 + 1, x5, I, J =>
  (if x3 ≤ x5 then k123 I J else vp_in (252 + x4) 280 ∧ vp_in (I 177 46) 32 ∧ ∀ J106 : MJ, J106 = sJ J 212 (vp_updL (J 212) (I 177 46).toNatClampNeg ((4 * (J 197 (252 + x4).toNatClampNeg)) + x5.toInt64)) → ∀ I114 : MI, I114 = sI I 177 (upd (I 177) 46 ((I 177 46) + 1)) → ∀ t117 : Int32, t117 = x5 + 1 → f_Model_findParts_L73 x3 x4 k123 nf73 t117 I114 J106)
def f_Model_findParts_L34 (x2 : Int32) (x3 : Int32) (k129 : MI → MJ → Prop) : Nat → Int32 → MI → MJ → Prop
  | 0, _, _, _ => False
  | nf34 + 1, x4, I, J =>
  (if x2 ≤ x4 then k129 I J else vp_in (252 + x4) 280 ∧ vp_in (I 177 46) 32 ∧ ∀ J59 : MJ, J59 = sJ J 212 (vp_updL (J 212) (I 177 46).toNatClampNeg (J 197 (252 + x4).toNatClampNeg)) → ∀ I67 : MI, I67 = sI I 177 (upd (I 177) 46 ((I 177 46) + 1)) → ∃ n, f_Model_findParts_L73 x3 x4 (fun (I : MI) (J : MJ) => ∀ t123 : Int32, t123 = x4 + 1 → f_Model_findParts_L34 x2 x3 k129 nf34 t123 I J) n 0 I67 J59)
def f_Model_findParts (x1 : Int32) (I : MI) (J : MJ) (Q : MI → MJ → Prop) : Prop :=
  ∀ I2 : MI, I2 = sI I 177 (upd (I 177) 46 0) → ∀ I7 : MI, I7 = sI I2 177 (upd (I2 177) 47 0) → ∀ I12 : MI, I12 = sI I7 177 (upd (I7 177) 48 0) → vp_in 18 20 ∧ ∀ t22 : Int32, t22 = I12 185 (18 : Int32).toNatClampNeg → vp_in 18 20 ∧ ∀ t30 : Int32, t30 = I12 186 (18 : Int32).toNatClampNeg → ∃ n, f_Model_findParts_L34 t22 t30 (fun (I : MI) (J : MJ) => vp_in 0 16 ∧ ∀ J135 : MJ, J135 = sJ J 213 (vp_updL (J 213) (0 : Int32).toNatClampNeg 1) → ∀ I138 : MI, I138 = sI I 177 (upd (I 177) 47 1) → ∃ n, f_Model_findParts_L147 x1 t30 (fun (I : MI) (J : MJ) => vp_in 0 16 ∧ ∀ J241 : MJ, J241 = sJ J 214 (vp_updL (J 214) (0 : Int32).toNatClampNeg 1) → ∀ I244 : MI, I244 = sI I 177 (upd (I 177) 48 1) → ∃ n, f_Model_findParts_L250 t22 (fun (I : MI) (J : MJ) => Q I J) n 0 I244 J241) n 0 0 I138 J135) n 0 I12 J
set_option maxRecDepth 100000 in
set_option maxHeartbeats 4000000 in
theorem w_Model_findParts_L259 {Γ : Ctx} {Q : MI → MJ → Prop} {x2 : Int32} {x5 : Int32} {k303 : MI → MJ → Prop} (X : Cx Γ cX11_findParts 9 RX11 3) (Y : Rt Γ (Pv Q) (Option.none : Option Jvm.ClassFile.FieldType))  (hk303 : ∀ (I : MI) (J : MJ), k303 I J → Wp Γ 9 303 [(0, .ref (ad Γ 177)), (2, .int x2), (5, .int x5)] [] I J) : ∀ (n : Nat) (x6 : Int32) (I : MI) (J : MJ), f_Model_findParts_L259 x5 k303 n x6 I J → Wp Γ 9 259 [(0, .ref (ad Γ 177)), (2, .int x2), (5, .int x5), (6, .int x6)] [] I J := by
  intro n
  induction n with
  | zero => intro x6 I J h; exact absurd h (by simp [f_Model_findParts_L259])
  | succ n ih =>
  intro x6 I J h
  unfold f_Model_findParts_L259 at h
  refine wp_iload X dX11_findParts_259 3 rfl ?_
  refine wp_iload X dX11_findParts_261 2 rfl ?_
  refine wp_icmp_ge (tgt := 303) X dX11_findParts_263 (by decide) (fun hc => ?_) (fun hc => ?_)
  · have h := ite_t h hc
    refine wp_sub X [0, 1, 2] rfl ?_
    exact hk303 _ _ h
  · have h := ite_f h hc
    refine wp_aload_n X dX11_findParts_266 0 rfl ?_
    refine gf_X11_120 (o' := 214) X sh_177 rfl dX11_findParts_267 ?_
    refine wp_aload_n X dX11_findParts_270 0 rfl ?_
    refine gf_X11_341 X sh_177 dX11_findParts_271 ?_
    refine wp_aload_n X dX11_findParts_274 0 rfl ?_
    refine wp_bipush X dX11_findParts_275 bi_18 ?_
    refine wp_iload X dX11_findParts_277 2 rfl ?_
    refine wp_bipush X dX11_findParts_279 bi_18 ?_
    refine wp_iload X dX11_findParts_281 3 rfl ?_
    refine cv_Model_difference X dX11_findParts_283 ml_X11_279  h (Nat.le_of_ble_eq_true rfl) (by decide) (fun r283 I283 J283 h => ?_)
    obtain ⟨hb286, h⟩ := h
    refine wp_last X sh_214 hb286 dX11_findParts_286 ?_
    refine wp_memJ (fun J286 eJ286 => ?_)
    have h := h J286 eJ286
    refine wp_aload_n X dX11_findParts_287 0 rfl ?_
    refine wp_dup X dX11_findParts_288 rfl ?_
    refine gf_X11_341 X sh_177 dX11_findParts_289 ?_
    refine wp_iconst X dX11_findParts_292 ic_1 ?_
    refine wp_iadd X dX11_findParts_293 ?_
    refine pf_X11_341 X sh_177 dX11_findParts_294 (fun I294 eI294 => ?_)
    have h := h I294 eI294
    obtain ⟨t297, et297⟩ : ∃ y : Int32, y = x6 + 1 := ⟨_, rfl⟩
    have h := h t297 et297
    refine wp_iinc (L' := [(6, .int t297), (0, .ref (ad Γ 177)), (2, .int x2), (5, .int x5)]) X dX11_findParts_297 3 rfl (ii_1 et297) (by decide) rfl ?_
    refine wp_goto (tgt := 259) X dX11_findParts_300 (by decide) ?_
    refine wp_sub X [1, 2, 3, 0] rfl ?_
    exact ih _ _ _ h

set_option maxRecDepth 100000 in
set_option maxHeartbeats 4000000 in
theorem w_Model_findParts_L250 {Γ : Ctx} {Q : MI → MJ → Prop} {x2 : Int32} {k309 : MI → MJ → Prop} (X : Cx Γ cX11_findParts 9 RX11 3) (Y : Rt Γ (Pv Q) (Option.none : Option Jvm.ClassFile.FieldType))  (hk309 : ∀ (I : MI) (J : MJ), k309 I J → Wp Γ 9 309 [] [] I J) : ∀ (n : Nat) (x5 : Int32) (I : MI) (J : MJ), f_Model_findParts_L250 x2 k309 n x5 I J → Wp Γ 9 250 [(0, .ref (ad Γ 177)), (2, .int x2), (5, .int x5)] [] I J := by
  intro n
  induction n with
  | zero => intro x5 I J h; exact absurd h (by simp [f_Model_findParts_L250])
  | succ n ih =>
  intro x5 I J h
  unfold f_Model_findParts_L250 at h
  refine wp_iload X dX11_findParts_250 2 rfl ?_
  refine wp_iload_n X dX11_findParts_252 1 rfl ?_
  refine wp_icmp_ge (tgt := 309) X dX11_findParts_253 (by decide) (fun hc => ?_) (fun hc => ?_)
  · have h := ite_t h hc
    refine wp_sub X [] rfl ?_
    exact hk309 _ _ h
  · have h := ite_f h hc
    refine wp_iconst X dX11_findParts_256 ic_0 ?_
    refine wp_istore (L' := [(6, .int 0), (0, .ref (ad Γ 177)), (2, .int x2), (5, .int x5)]) X dX11_findParts_257 (by decide) rfl ?_
    obtain ⟨n, h⟩ := h
    refine wp_sub X [1, 2, 3, 0] rfl ?_
    refine w_Model_findParts_L259 X Y  ?_ n _ _ _ h
    · intro I J h
      obtain ⟨t303, et303⟩ : ∃ y : Int32, y = x5 + 1 := ⟨_, rfl⟩
      have h := h t303 et303
      refine wp_iinc (L' := [(5, .int t303), (0, .ref (ad Γ 177)), (2, .int x2)]) X dX11_findParts_303 2 rfl (ii_1 et303) (by decide) rfl ?_
      refine wp_goto (tgt := 250) X dX11_findParts_306 (by decide) ?_
      refine wp_sub X [1, 2, 0] rfl ?_
      exact ih _ _ _ h

set_option maxRecDepth 100000 in
set_option maxHeartbeats 4000000 in
theorem w_Model_findParts_L173 {Γ : Ctx} {Q : MI → MJ → Prop} {x1 : Int32} {x2 : Int32} {x3 : Int32} {x5 : Int32} {x6 : Int32} {x7 : Int32} {k219 : MI → MJ → Prop} (X : Cx Γ cX11_findParts 9 RX11 3) (Y : Rt Γ (Pv Q) (Option.none : Option Jvm.ClassFile.FieldType))  (hk219 : ∀ (I : MI) (J : MJ), k219 I J → Wp Γ 9 219 [(0, .ref (ad Γ 177)), (1, .int x1), (2, .int x2), (3, .int x3), (5, .int x5), (6, .int x6), (7, .int x7)] [] I J) : ∀ (n : Nat) (x8 : Int32) (I : MI) (J : MJ), f_Model_findParts_L173 x3 x7 k219 n x8 I J → Wp Γ 9 173 [(0, .ref (ad Γ 177)), (1, .int x1), (2, .int x2), (3, .int x3), (5, .int x5), (6, .int x6), (7, .int x7), (8, .int x8)] [] I J := by
  intro n
  induction n with
  | zero => intro x8 I J h; exact absurd h (by simp [f_Model_findParts_L173])
  | succ n ih =>
  intro x8 I J h
  unfold f_Model_findParts_L173 at h
  refine wp_iload X dX11_findParts_173 7 rfl ?_
  refine wp_iload_n X dX11_findParts_175 3 rfl ?_
  refine wp_icmp_ge (tgt := 219) X dX11_findParts_176 (by decide) (fun hc => ?_) (fun hc => ?_)
  · have h := ite_t h hc
    refine wp_sub X [0, 1, 2, 3, 4, 5, 6] rfl ?_
    exact hk219 _ _ h
  · have h := ite_f h hc
    refine wp_aload_n X dX11_findParts_179 0 rfl ?_
    refine gf_X11_117 (o' := 213) X sh_177 rfl dX11_findParts_180 ?_
    refine wp_aload_n X dX11_findParts_183 0 rfl ?_
    refine gf_X11_338 X sh_177 dX11_findParts_184 ?_
    refine wp_ldc2 X kl_X11_197 dX11_findParts_187 ?_
    refine wp_aload_n X dX11_findParts_190 0 rfl ?_
    refine gf_X11_117 (o' := 213) X sh_177 rfl dX11_findParts_191 ?_
    refine wp_iload X dX11_findParts_194 6 rfl ?_
    obtain ⟨hb196, h⟩ := h
    refine wp_lald X sh_213 hb196 dX11_findParts_196 ?_
    refine wp_lmul X dX11_findParts_197 ?_
    refine wp_iload X dX11_findParts_198 7 rfl ?_
    refine wp_i2l X dX11_findParts_200 ?_
    refine wp_ladd X dX11_findParts_201 ?_
    obtain ⟨hb202, h⟩ := h
    refine wp_last X sh_213 hb202 dX11_findParts_202 ?_
    refine wp_memJ (fun J202 eJ202 => ?_)
    have h := h J202 eJ202
    refine wp_aload_n X dX11_findParts_203 0 rfl ?_
    refine wp_dup X dX11_findParts_204 rfl ?_
    refine gf_X11_338 X sh_177 dX11_findParts_205 ?_
    refine wp_iconst X dX11_findParts_208 ic_1 ?_
    refine wp_iadd X dX11_findParts_209 ?_
    refine pf_X11_338 X sh_177 dX11_findParts_210 (fun I210 eI210 => ?_)
    have h := h I210 eI210
    obtain ⟨t213, et213⟩ : ∃ y : Int32, y = x8 + 1 := ⟨_, rfl⟩
    have h := h t213 et213
    refine wp_iinc (L' := [(8, .int t213), (0, .ref (ad Γ 177)), (1, .int x1), (2, .int x2), (3, .int x3), (5, .int x5), (6, .int x6), (7, .int x7)]) X dX11_findParts_213 7 rfl (ii_1 et213) (by decide) rfl ?_
    refine wp_goto (tgt := 173) X dX11_findParts_216 (by decide) ?_
    refine wp_sub X [1, 2, 3, 4, 5, 6, 7, 0] rfl ?_
    exact ih _ _ _ h

set_option maxRecDepth 100000 in
set_option maxHeartbeats 4000000 in
theorem w_Model_findParts_L163 {Γ : Ctx} {Q : MI → MJ → Prop} {x1 : Int32} {x2 : Int32} {x3 : Int32} {x5 : Int32} {x6 : Int32} {k225 : MI → MJ → Prop} (X : Cx Γ cX11_findParts 9 RX11 3) (Y : Rt Γ (Pv Q) (Option.none : Option Jvm.ClassFile.FieldType))  (hk225 : ∀ (I : MI) (J : MJ), k225 I J → Wp Γ 9 225 [(0, .ref (ad Γ 177)), (1, .int x1), (2, .int x2), (3, .int x3), (5, .int x5), (6, .int x6)] [] I J) : ∀ (n : Nat) (x7 : Int32) (I : MI) (J : MJ), f_Model_findParts_L163 x3 x6 k225 n x7 I J → Wp Γ 9 163 [(0, .ref (ad Γ 177)), (1, .int x1), (2, .int x2), (3, .int x3), (5, .int x5), (6, .int x6), (7, .int x7)] [] I J := by
  intro n
  induction n with
  | zero => intro x7 I J h; exact absurd h (by simp [f_Model_findParts_L163])
  | succ n ih =>
  intro x7 I J h
  unfold f_Model_findParts_L163 at h
  refine wp_iload X dX11_findParts_163 6 rfl ?_
  refine wp_iload X dX11_findParts_165 5 rfl ?_
  refine wp_icmp_ge (tgt := 225) X dX11_findParts_167 (by decide) (fun hc => ?_) (fun hc => ?_)
  · have h := ite_t h hc
    refine wp_sub X [0, 1, 2, 3, 4, 5] rfl ?_
    exact hk225 _ _ h
  · have h := ite_f h hc
    refine wp_iconst X dX11_findParts_170 ic_0 ?_
    refine wp_istore (L' := [(8, .int 0), (0, .ref (ad Γ 177)), (1, .int x1), (2, .int x2), (3, .int x3), (5, .int x5), (6, .int x6), (7, .int x7)]) X dX11_findParts_171 (by decide) rfl ?_
    obtain ⟨n, h⟩ := h
    refine wp_sub X [1, 2, 3, 4, 5, 6, 7, 0] rfl ?_
    refine w_Model_findParts_L173 X Y  ?_ n _ _ _ h
    · intro I J h
      obtain ⟨t219, et219⟩ : ∃ y : Int32, y = x7 + 1 := ⟨_, rfl⟩
      have h := h t219 et219
      refine wp_iinc (L' := [(7, .int t219), (0, .ref (ad Γ 177)), (1, .int x1), (2, .int x2), (3, .int x3), (5, .int x5), (6, .int x6)]) X dX11_findParts_219 6 rfl (ii_1 et219) (by decide) rfl ?_
      refine wp_goto (tgt := 163) X dX11_findParts_222 (by decide) ?_
      refine wp_sub X [1, 2, 3, 4, 5, 6, 0] rfl ?_
      exact ih _ _ _ h

set_option maxRecDepth 100000 in
set_option maxHeartbeats 4000000 in
theorem w_Model_findParts_L147 {Γ : Ctx} {Q : MI → MJ → Prop} {x1 : Int32} {x2 : Int32} {x3 : Int32} {k235 : MI → MJ → Prop} (X : Cx Γ cX11_findParts 9 RX11 3) (Y : Rt Γ (Pv Q) (Option.none : Option Jvm.ClassFile.FieldType))  (hk235 : ∀ (I : MI) (J : MJ), k235 I J → Wp Γ 9 235 [(0, .ref (ad Γ 177)), (2, .int x2)] [] I J) : ∀ (n : Nat) (x4 : Int32) (x5 : Int32) (I : MI) (J : MJ), f_Model_findParts_L147 x1 x3 k235 n x4 x5 I J → Wp Γ 9 147 [(0, .ref (ad Γ 177)), (1, .int x1), (2, .int x2), (3, .int x3), (4, .int x4), (5, .int x5)] [] I J := by
  intro n
  induction n with
  | zero => intro x4 x5 I J h; exact absurd h (by simp [f_Model_findParts_L147])
  | succ n ih =>
  intro x4 x5 I J h
  unfold f_Model_findParts_L147 at h
  refine wp_iload X dX11_findParts_147 5 rfl ?_
  refine wp_iload_n X dX11_findParts_149 1 rfl ?_
  refine wp_icmp_ge (tgt := 235) X dX11_findParts_150 (by decide) (fun hc => ?_) (fun hc => ?_)
  · have h := ite_t h hc
    refine wp_sub X [0, 2] rfl ?_
    exact hk235 _ _ h
  · have h := ite_f h hc
    refine wp_aload_n X dX11_findParts_153 0 rfl ?_
    refine gf_X11_338 X sh_177 dX11_findParts_154 ?_
    refine wp_topi (fun t157 et157 => ?_)
    have h := h t157 et157
    refine wp_istore (L' := [(6, .int t157), (0, .ref (ad Γ 177)), (1, .int x1), (2, .int x2), (3, .int x3), (4, .int x4), (5, .int x5)]) X dX11_findParts_157 (by decide) rfl ?_
    refine wp_iload X dX11_findParts_159 5 rfl ?_
    refine wp_istore (L' := [(7, .int x4), (6, .int t157), (0, .ref (ad Γ 177)), (1, .int x1), (2, .int x2), (3, .int x3), (4, .int x4), (5, .int x5)]) X dX11_findParts_161 (by decide) rfl ?_
    obtain ⟨n, h⟩ := h
    refine wp_sub X [2, 3, 4, 5, 7, 1, 0] rfl ?_
    refine w_Model_findParts_L163 X Y  ?_ n _ _ _ h
    · intro I J h
      refine wp_iload X dX11_findParts_225 5 rfl ?_
      refine wp_istore (L' := [(4, .int t157), (0, .ref (ad Γ 177)), (1, .int x1), (2, .int x2), (3, .int x3), (5, .int x5), (6, .int t157)]) X dX11_findParts_227 (by decide) rfl ?_
      obtain ⟨t229, et229⟩ : ∃ y : Int32, y = x5 + 1 := ⟨_, rfl⟩
      have h := h t229 et229
      refine wp_iinc (L' := [(5, .int t229), (4, .int t157), (0, .ref (ad Γ 177)), (1, .int x1), (2, .int x2), (3, .int x3), (6, .int t157)]) X dX11_findParts_229 5 rfl (ii_1 et229) (by decide) rfl ?_
      refine wp_goto (tgt := 147) X dX11_findParts_232 (by decide) ?_
      refine wp_sub X [2, 3, 4, 5, 1, 0] rfl ?_
      exact ih _ _ _ _ h

set_option maxRecDepth 100000 in
set_option maxHeartbeats 4000000 in
theorem w_Model_findParts_L73 {Γ : Ctx} {Q : MI → MJ → Prop} {x1 : Int32} {x2 : Int32} {x3 : Int32} {x4 : Int32} {k123 : MI → MJ → Prop} (X : Cx Γ cX11_findParts 9 RX11 3) (Y : Rt Γ (Pv Q) (Option.none : Option Jvm.ClassFile.FieldType))  (hk123 : ∀ (I : MI) (J : MJ), k123 I J → Wp Γ 9 123 [(0, .ref (ad Γ 177)), (1, .int x1), (2, .int x2), (3, .int x3), (4, .int x4)] [] I J) : ∀ (n : Nat) (x5 : Int32) (I : MI) (J : MJ), f_Model_findParts_L73 x3 x4 k123 n x5 I J → Wp Γ 9 73 [(0, .ref (ad Γ 177)), (1, .int x1), (2, .int x2), (3, .int x3), (4, .int x4), (5, .int x5)] [] I J := by
  intro n
  induction n with
  | zero => intro x5 I J h; exact absurd h (by simp [f_Model_findParts_L73])
  | succ n ih =>
  intro x5 I J h
  unfold f_Model_findParts_L73 at h
  refine wp_iload X dX11_findParts_73 5 rfl ?_
  refine wp_iload_n X dX11_findParts_75 3 rfl ?_
  refine wp_icmp_ge (tgt := 123) X dX11_findParts_76 (by decide) (fun hc => ?_) (fun hc => ?_)
  · have h := ite_t h hc
    refine wp_sub X [0, 1, 2, 3, 4] rfl ?_
    exact hk123 _ _ h
  · have h := ite_f h hc
    refine wp_aload_n X dX11_findParts_79 0 rfl ?_
    refine gf_X11_114 (o' := 212) X sh_177 rfl dX11_findParts_80 ?_
    refine wp_aload_n X dX11_findParts_83 0 rfl ?_
    refine gf_X11_335 X sh_177 dX11_findParts_84 ?_
    refine wp_ldc2 X kl_X11_197 dX11_findParts_87 ?_
    refine wp_aload_n X dX11_findParts_90 0 rfl ?_
    refine gf_X11_69 (o' := 197) X sh_177 rfl dX11_findParts_91 ?_
    refine wp_sipush X dX11_findParts_94 si_252 ?_
    refine wp_iload X dX11_findParts_97 4 rfl ?_
    refine wp_iadd X dX11_findParts_99 ?_
    obtain ⟨hb100, h⟩ := h
    refine wp_lald X sh_197 hb100 dX11_findParts_100 ?_
    refine wp_lmul X dX11_findParts_101 ?_
    refine wp_iload X dX11_findParts_102 5 rfl ?_
    refine wp_i2l X dX11_findParts_104 ?_
    refine wp_ladd X dX11_findParts_105 ?_
    obtain ⟨hb106, h⟩ := h
    refine wp_last X sh_212 hb106 dX11_findParts_106 ?_
    refine wp_memJ (fun J106 eJ106 => ?_)
    have h := h J106 eJ106
    refine wp_aload_n X dX11_findParts_107 0 rfl ?_
    refine wp_dup X dX11_findParts_108 rfl ?_
    refine gf_X11_335 X sh_177 dX11_findParts_109 ?_
    refine wp_iconst X dX11_findParts_112 ic_1 ?_
    refine wp_iadd X dX11_findParts_113 ?_
    refine pf_X11_335 X sh_177 dX11_findParts_114 (fun I114 eI114 => ?_)
    have h := h I114 eI114
    obtain ⟨t117, et117⟩ : ∃ y : Int32, y = x5 + 1 := ⟨_, rfl⟩
    have h := h t117 et117
    refine wp_iinc (L' := [(5, .int t117), (0, .ref (ad Γ 177)), (1, .int x1), (2, .int x2), (3, .int x3), (4, .int x4)]) X dX11_findParts_117 5 rfl (ii_1 et117) (by decide) rfl ?_
    refine wp_goto (tgt := 73) X dX11_findParts_120 (by decide) ?_
    refine wp_sub X [1, 2, 3, 4, 5, 0] rfl ?_
    exact ih _ _ _ h

set_option maxRecDepth 100000 in
set_option maxHeartbeats 4000000 in
theorem w_Model_findParts_L34 {Γ : Ctx} {Q : MI → MJ → Prop} {x1 : Int32} {x2 : Int32} {x3 : Int32} {k129 : MI → MJ → Prop} (X : Cx Γ cX11_findParts 9 RX11 3) (Y : Rt Γ (Pv Q) (Option.none : Option Jvm.ClassFile.FieldType))  (hk129 : ∀ (I : MI) (J : MJ), k129 I J → Wp Γ 9 129 [(0, .ref (ad Γ 177)), (1, .int x1), (2, .int x2), (3, .int x3)] [] I J) : ∀ (n : Nat) (x4 : Int32) (I : MI) (J : MJ), f_Model_findParts_L34 x2 x3 k129 n x4 I J → Wp Γ 9 34 [(0, .ref (ad Γ 177)), (1, .int x1), (2, .int x2), (3, .int x3), (4, .int x4)] [] I J := by
  intro n
  induction n with
  | zero => intro x4 I J h; exact absurd h (by simp [f_Model_findParts_L34])
  | succ n ih =>
  intro x4 I J h
  unfold f_Model_findParts_L34 at h
  refine wp_iload X dX11_findParts_34 4 rfl ?_
  refine wp_iload_n X dX11_findParts_36 2 rfl ?_
  refine wp_icmp_ge (tgt := 129) X dX11_findParts_37 (by decide) (fun hc => ?_) (fun hc => ?_)
  · have h := ite_t h hc
    refine wp_sub X [0, 1, 2, 3] rfl ?_
    exact hk129 _ _ h
  · have h := ite_f h hc
    refine wp_aload_n X dX11_findParts_40 0 rfl ?_
    refine gf_X11_114 (o' := 212) X sh_177 rfl dX11_findParts_41 ?_
    refine wp_aload_n X dX11_findParts_44 0 rfl ?_
    refine gf_X11_335 X sh_177 dX11_findParts_45 ?_
    refine wp_aload_n X dX11_findParts_48 0 rfl ?_
    refine gf_X11_69 (o' := 197) X sh_177 rfl dX11_findParts_49 ?_
    refine wp_sipush X dX11_findParts_52 si_252 ?_
    refine wp_iload X dX11_findParts_55 4 rfl ?_
    refine wp_iadd X dX11_findParts_57 ?_
    obtain ⟨hb58, h⟩ := h
    refine wp_lald X sh_197 hb58 dX11_findParts_58 ?_
    obtain ⟨hb59, h⟩ := h
    refine wp_last X sh_212 hb59 dX11_findParts_59 ?_
    refine wp_memJ (fun J59 eJ59 => ?_)
    have h := h J59 eJ59
    refine wp_aload_n X dX11_findParts_60 0 rfl ?_
    refine wp_dup X dX11_findParts_61 rfl ?_
    refine gf_X11_335 X sh_177 dX11_findParts_62 ?_
    refine wp_iconst X dX11_findParts_65 ic_1 ?_
    refine wp_iadd X dX11_findParts_66 ?_
    refine pf_X11_335 X sh_177 dX11_findParts_67 (fun I67 eI67 => ?_)
    have h := h I67 eI67
    refine wp_iconst X dX11_findParts_70 ic_0 ?_
    refine wp_istore (L' := [(5, .int 0), (0, .ref (ad Γ 177)), (1, .int x1), (2, .int x2), (3, .int x3), (4, .int x4)]) X dX11_findParts_71 (by decide) rfl ?_
    obtain ⟨n, h⟩ := h
    refine wp_sub X [1, 2, 3, 4, 5, 0] rfl ?_
    refine w_Model_findParts_L73 X Y  ?_ n _ _ _ h
    · intro I J h
      obtain ⟨t123, et123⟩ : ∃ y : Int32, y = x4 + 1 := ⟨_, rfl⟩
      have h := h t123 et123
      refine wp_iinc (L' := [(4, .int t123), (0, .ref (ad Γ 177)), (1, .int x1), (2, .int x2), (3, .int x3)]) X dX11_findParts_123 4 rfl (ii_1 et123) (by decide) rfl ?_
      refine wp_goto (tgt := 34) X dX11_findParts_126 (by decide) ?_
      refine wp_sub X [1, 2, 3, 4, 0] rfl ?_
      exact ih _ _ _ h

set_option maxRecDepth 100000 in
set_option maxHeartbeats 4000000 in
theorem w_Model_findParts_b0 {Γ : Ctx} {Q : MI → MJ → Prop} {x1 : Int32}  (X : Cx Γ cX11_findParts 9 RX11 3) (Y : Rt Γ (Pv Q) (Option.none : Option Jvm.ClassFile.FieldType))   {I : MI} {J : MJ} (h : f_Model_findParts x1 I J Q) : Wp Γ 9 0 [(0, .ref (ad Γ 177)), (1, .int x1)] [] I J := by
  unfold f_Model_findParts at h
  refine wp_aload_n X dX11_findParts_0 0 rfl ?_
  refine wp_iconst X dX11_findParts_1 ic_0 ?_
  refine pf_X11_335 X sh_177 dX11_findParts_2 (fun I2 eI2 => ?_)
  have h := h I2 eI2
  refine wp_aload_n X dX11_findParts_5 0 rfl ?_
  refine wp_iconst X dX11_findParts_6 ic_0 ?_
  refine pf_X11_338 X sh_177 dX11_findParts_7 (fun I7 eI7 => ?_)
  have h := h I7 eI7
  refine wp_aload_n X dX11_findParts_10 0 rfl ?_
  refine wp_iconst X dX11_findParts_11 ic_0 ?_
  refine pf_X11_341 X sh_177 dX11_findParts_12 (fun I12 eI12 => ?_)
  have h := h I12 eI12
  refine wp_aload_n X dX11_findParts_15 0 rfl ?_
  refine gf_X11_33 (o' := 185) X sh_177 rfl dX11_findParts_16 ?_
  refine wp_bipush X dX11_findParts_19 bi_18 ?_
  obtain ⟨hb21, h⟩ := h
  refine wp_iald X sh_185 hb21 dX11_findParts_21 ?_
  refine wp_topi (fun t22 et22 => ?_)
  have h := h t22 et22
  refine wp_istore_n (L' := [(2, .int t22), (0, .ref (ad Γ 177)), (1, .int x1)]) X dX11_findParts_22 rfl (by decide) rfl ?_
  refine wp_aload_n X dX11_findParts_23 1 rfl ?_
  refine gf_X11_36 (o' := 186) X sh_177 rfl dX11_findParts_24 ?_
  refine wp_bipush X dX11_findParts_27 bi_18 ?_
  obtain ⟨hb29, h⟩ := h
  refine wp_iald X sh_186 hb29 dX11_findParts_29 ?_
  refine wp_topi (fun t30 et30 => ?_)
  have h := h t30 et30
  refine wp_istore_n (L' := [(3, .int t30), (2, .int t22), (0, .ref (ad Γ 177)), (1, .int x1)]) X dX11_findParts_30 rfl (by decide) rfl ?_
  refine wp_iconst X dX11_findParts_31 ic_0 ?_
  refine wp_istore (L' := [(4, .int 0), (3, .int t30), (2, .int t22), (0, .ref (ad Γ 177)), (1, .int x1)]) X dX11_findParts_32 (by decide) rfl ?_
  obtain ⟨n, h⟩ := h
  refine wp_sub X [3, 4, 2, 1, 0] rfl ?_
  refine w_Model_findParts_L34 X Y  ?_ n _ _ _ h
  · intro I J h
    refine wp_aload_n X dX11_findParts_129 0 rfl ?_
    refine gf_X11_117 (o' := 213) X sh_177 rfl dX11_findParts_130 ?_
    refine wp_iconst X dX11_findParts_133 ic_0 ?_
    refine wp_lconst X dX11_findParts_134 lc_1 ?_
    obtain ⟨hb135, h⟩ := h
    refine wp_last X sh_213 hb135 dX11_findParts_135 ?_
    refine wp_memJ (fun J135 eJ135 => ?_)
    have h := h J135 eJ135
    refine wp_aload_n X dX11_findParts_136 0 rfl ?_
    refine wp_iconst X dX11_findParts_137 ic_1 ?_
    refine pf_X11_338 X sh_177 dX11_findParts_138 (fun I138 eI138 => ?_)
    have h := h I138 eI138
    refine wp_iconst X dX11_findParts_141 ic_0 ?_
    refine wp_istore (L' := [(4, .int 0), (0, .ref (ad Γ 177)), (1, .int x1), (2, .int t22), (3, .int t30)]) X dX11_findParts_142 (by decide) rfl ?_
    refine wp_iconst X dX11_findParts_144 ic_0 ?_
    refine wp_istore (L' := [(5, .int 0), (4, .int 0), (0, .ref (ad Γ 177)), (1, .int x1), (2, .int t22), (3, .int t30)]) X dX11_findParts_145 (by decide) rfl ?_
    obtain ⟨n, h⟩ := h
    refine wp_sub X [2, 3, 4, 5, 1, 0] rfl ?_
    refine w_Model_findParts_L147 X Y  ?_ n _ _ _ _ h
    · intro I J h
      refine wp_aload_n X dX11_findParts_235 0 rfl ?_
      refine gf_X11_120 (o' := 214) X sh_177 rfl dX11_findParts_236 ?_
      refine wp_iconst X dX11_findParts_239 ic_0 ?_
      refine wp_lconst X dX11_findParts_240 lc_1 ?_
      obtain ⟨hb241, h⟩ := h
      refine wp_last X sh_214 hb241 dX11_findParts_241 ?_
      refine wp_memJ (fun J241 eJ241 => ?_)
      have h := h J241 eJ241
      refine wp_aload_n X dX11_findParts_242 0 rfl ?_
      refine wp_iconst X dX11_findParts_243 ic_1 ?_
      refine pf_X11_341 X sh_177 dX11_findParts_244 (fun I244 eI244 => ?_)
      have h := h I244 eI244
      refine wp_iconst X dX11_findParts_247 ic_0 ?_
      refine wp_istore (L' := [(5, .int 0), (0, .ref (ad Γ 177)), (2, .int t22)]) X dX11_findParts_248 (by decide) rfl ?_
      obtain ⟨n, h⟩ := h
      refine wp_sub X [1, 2, 0] rfl ?_
      refine w_Model_findParts_L250 X Y  ?_ n _ _ _ h
      · intro I J h
        exact wp_vret X Y dX11_findParts_309 ⟨rfl, h⟩

theorem c_Model_findParts {l : Launch} {g : GE} (hg : Inj g) {I : MI} {J : MJ} {Q : MI → MJ → Prop} {x1 : Int32}  (h : f_Model_findParts x1 I J Q) : Cm l g yX11_findParts cX11_findParts 9 (Option.none : Option Jvm.ClassFile.FieldType) 3 [.ref (g.1 177), .int x1] I J (Pv Q) := by
  refine Cm.of (As := fun ad => [.ref (ad 177), .int x1]) hg pn_X11 (Nat.le_of_ble_eq_true rfl) ?_
  exact (fun Γ _ _ X Y => w_Model_findParts_b0 X Y  h)
theorem cv_Model_findParts {Γ : Ctx} {cc : ByteArray} {nL d pc index : Nat} {own : String} {L : List (Nat × Value)} {rest : List Value} {I : MI} {J : MJ} {Q : MI → MJ → Prop} {x1 : Int32} (X : Cx Γ cc nL own d) (hd : decode cc pc = .ok (.invokevirtual index, 3)) (hlink : Cond.methodLink own index yX11_findParts ∈ TT)  (h : f_Model_findParts x1 I J Q) (hrest : (rest.map fun v => v.category).sum ≤ 8) (hdd : 3 + 1 ≤ d) (kk : ∀ (I' : MI) (J' : MJ), Q I' J' → Wp Γ nL (pc + 3) L rest I' J') : Wp Γ nL pc L (.int x1 :: .ref (ad Γ 177) :: rest) I J :=
  wp_callV (As := [.int x1]) (rest := rest) (T := TX11) (N := 62) X hd hlink mv_X11_findParts sh_177 (by decide) rfl (c_Model_findParts X.inj  h) rfl rfl hrest hdd (fun v I' J' hv => by obtain ⟨rfl, hq⟩ := hv; exact kk I' J' hq)
theorem dX11_order_0 : decode cX11_order 0 = .ok (.aload_n 0, 1) := by decide +kernel
theorem dX11_order_1 : decode cX11_order 1 = .ok (.getfield 344, 3) := by decide +kernel
theorem dX11_order_4 : decode cX11_order 4 = .ok (.iconst 2, 1) := by decide +kernel
theorem dX11_order_5 : decode cX11_order 5 = .ok (.idiv, 1) := by decide +kernel
theorem dX11_order_6 : decode cX11_order 6 = .ok (.istore_n 1, 1) := by decide +kernel
theorem dX11_order_7 : decode cX11_order 7 = .ok (.iload_n 1, 1) := by decide +kernel
theorem dX11_order_8 : decode cX11_order 8 = .ok (.ifCond .le 89, 3) := by decide +kernel
theorem dX11_order_11 : decode cX11_order 11 = .ok (.iload_n 1, 1) := by decide +kernel
theorem dX11_order_12 : decode cX11_order 12 = .ok (.istore_n 2, 1) := by decide +kernel
theorem dX11_order_13 : decode cX11_order 13 = .ok (.iload_n 2, 1) := by decide +kernel
theorem dX11_order_14 : decode cX11_order 14 = .ok (.aload_n 0, 1) := by decide +kernel
theorem dX11_order_15 : decode cX11_order 15 = .ok (.getfield 344, 3) := by decide +kernel
theorem dX11_order_18 : decode cX11_order 18 = .ok (.if_icmp .ge 72, 3) := by decide +kernel
theorem dX11_order_21 : decode cX11_order 21 = .ok (.aload_n 0, 1) := by decide +kernel
theorem dX11_order_22 : decode cX11_order 22 = .ok (.getfield 111, 3) := by decide +kernel
theorem dX11_order_25 : decode cX11_order 25 = .ok (.iload_n 2, 1) := by decide +kernel
theorem dX11_order_26 : decode cX11_order 26 = .ok (.laload, 1) := by decide +kernel
theorem dX11_order_27 : decode cX11_order 27 = .ok (.lstore_n 3, 1) := by decide +kernel
theorem dX11_order_28 : decode cX11_order 28 = .ok (.iload_n 2, 1) := by decide +kernel
theorem dX11_order_29 : decode cX11_order 29 = .ok (.istore 5, 2) := by decide +kernel
theorem dX11_order_31 : decode cX11_order 31 = .ok (.iload 5, 2) := by decide +kernel
theorem dX11_order_33 : decode cX11_order 33 = .ok (.iload_n 1, 1) := by decide +kernel
theorem dX11_order_34 : decode cX11_order 34 = .ok (.if_icmp .lt 42, 3) := by decide +kernel
theorem dX11_order_37 : decode cX11_order 37 = .ok (.aload_n 0, 1) := by decide +kernel
theorem dX11_order_38 : decode cX11_order 38 = .ok (.getfield 111, 3) := by decide +kernel
theorem dX11_order_41 : decode cX11_order 41 = .ok (.iload 5, 2) := by decide +kernel
theorem dX11_order_43 : decode cX11_order 43 = .ok (.iload_n 1, 1) := by decide +kernel
theorem dX11_order_44 : decode cX11_order 44 = .ok (.isub, 1) := by decide +kernel
theorem dX11_order_45 : decode cX11_order 45 = .ok (.laload, 1) := by decide +kernel
theorem dX11_order_46 : decode cX11_order 46 = .ok (.lload_n 3, 1) := by decide +kernel
theorem dX11_order_47 : decode cX11_order 47 = .ok (.lcmp, 1) := by decide +kernel
theorem dX11_order_48 : decode cX11_order 48 = .ok (.ifCond .le 28, 3) := by decide +kernel
theorem dX11_order_51 : decode cX11_order 51 = .ok (.aload_n 0, 1) := by decide +kernel
theorem dX11_order_52 : decode cX11_order 52 = .ok (.getfield 111, 3) := by decide +kernel
theorem dX11_order_55 : decode cX11_order 55 = .ok (.iload 5, 2) := by decide +kernel
theorem dX11_order_57 : decode cX11_order 57 = .ok (.aload_n 0, 1) := by decide +kernel
theorem dX11_order_58 : decode cX11_order 58 = .ok (.getfield 111, 3) := by decide +kernel
theorem dX11_order_61 : decode cX11_order 61 = .ok (.iload 5, 2) := by decide +kernel
theorem dX11_order_63 : decode cX11_order 63 = .ok (.iload_n 1, 1) := by decide +kernel
theorem dX11_order_64 : decode cX11_order 64 = .ok (.isub, 1) := by decide +kernel
theorem dX11_order_65 : decode cX11_order 65 = .ok (.laload, 1) := by decide +kernel
theorem dX11_order_66 : decode cX11_order 66 = .ok (.lastore, 1) := by decide +kernel
theorem dX11_order_67 : decode cX11_order 67 = .ok (.iload 5, 2) := by decide +kernel
theorem dX11_order_69 : decode cX11_order 69 = .ok (.iload_n 1, 1) := by decide +kernel
theorem dX11_order_70 : decode cX11_order 70 = .ok (.isub, 1) := by decide +kernel
theorem dX11_order_71 : decode cX11_order 71 = .ok (.istore 5, 2) := by decide +kernel
theorem dX11_order_73 : decode cX11_order 73 = .ok (.goto (-42), 3) := by decide +kernel
theorem dX11_order_76 : decode cX11_order 76 = .ok (.aload_n 0, 1) := by decide +kernel
theorem dX11_order_77 : decode cX11_order 77 = .ok (.getfield 111, 3) := by decide +kernel
theorem dX11_order_80 : decode cX11_order 80 = .ok (.iload 5, 2) := by decide +kernel
theorem dX11_order_82 : decode cX11_order 82 = .ok (.lload_n 3, 1) := by decide +kernel
theorem dX11_order_83 : decode cX11_order 83 = .ok (.lastore, 1) := by decide +kernel
theorem dX11_order_84 : decode cX11_order 84 = .ok (.iinc 2 1, 3) := by decide +kernel
theorem dX11_order_87 : decode cX11_order 87 = .ok (.goto (-74), 3) := by decide +kernel
theorem dX11_order_90 : decode cX11_order 90 = .ok (.iload_n 1, 1) := by decide +kernel
theorem dX11_order_91 : decode cX11_order 91 = .ok (.iconst 2, 1) := by decide +kernel
theorem dX11_order_92 : decode cX11_order 92 = .ok (.idiv, 1) := by decide +kernel
theorem dX11_order_93 : decode cX11_order 93 = .ok (.istore_n 1, 1) := by decide +kernel
theorem dX11_order_94 : decode cX11_order 94 = .ok (.goto (-87), 3) := by decide +kernel
theorem dX11_order_97 : decode cX11_order 97 = .ok (.iconst 0, 1) := by decide +kernel
theorem dX11_order_98 : decode cX11_order 98 = .ok (.istore_n 1, 1) := by decide +kernel
theorem dX11_order_99 : decode cX11_order 99 = .ok (.iconst 0, 1) := by decide +kernel
theorem dX11_order_100 : decode cX11_order 100 = .ok (.istore_n 2, 1) := by decide +kernel
theorem dX11_order_101 : decode cX11_order 101 = .ok (.iload_n 2, 1) := by decide +kernel
theorem dX11_order_102 : decode cX11_order 102 = .ok (.aload_n 0, 1) := by decide +kernel
theorem dX11_order_103 : decode cX11_order 103 = .ok (.getfield 344, 3) := by decide +kernel
theorem dX11_order_106 : decode cX11_order 106 = .ok (.if_icmp .ge 46, 3) := by decide +kernel
theorem dX11_order_109 : decode cX11_order 109 = .ok (.iload_n 1, 1) := by decide +kernel
theorem dX11_order_110 : decode cX11_order 110 = .ok (.ifCond .eq 21, 3) := by decide +kernel
theorem dX11_order_113 : decode cX11_order 113 = .ok (.aload_n 0, 1) := by decide +kernel
theorem dX11_order_114 : decode cX11_order 114 = .ok (.getfield 111, 3) := by decide +kernel
theorem dX11_order_117 : decode cX11_order 117 = .ok (.iload_n 1, 1) := by decide +kernel
theorem dX11_order_118 : decode cX11_order 118 = .ok (.iconst 1, 1) := by decide +kernel
theorem dX11_order_119 : decode cX11_order 119 = .ok (.isub, 1) := by decide +kernel
theorem dX11_order_120 : decode cX11_order 120 = .ok (.laload, 1) := by decide +kernel
theorem dX11_order_121 : decode cX11_order 121 = .ok (.aload_n 0, 1) := by decide +kernel
theorem dX11_order_122 : decode cX11_order 122 = .ok (.getfield 111, 3) := by decide +kernel
theorem dX11_order_125 : decode cX11_order 125 = .ok (.iload_n 2, 1) := by decide +kernel
theorem dX11_order_126 : decode cX11_order 126 = .ok (.laload, 1) := by decide +kernel
theorem dX11_order_127 : decode cX11_order 127 = .ok (.lcmp, 1) := by decide +kernel
theorem dX11_order_128 : decode cX11_order 128 = .ok (.ifCond .eq 18, 3) := by decide +kernel
theorem dX11_order_131 : decode cX11_order 131 = .ok (.aload_n 0, 1) := by decide +kernel
theorem dX11_order_132 : decode cX11_order 132 = .ok (.getfield 111, 3) := by decide +kernel
theorem dX11_order_135 : decode cX11_order 135 = .ok (.iload_n 1, 1) := by decide +kernel
theorem dX11_order_136 : decode cX11_order 136 = .ok (.aload_n 0, 1) := by decide +kernel
theorem dX11_order_137 : decode cX11_order 137 = .ok (.getfield 111, 3) := by decide +kernel
theorem dX11_order_140 : decode cX11_order 140 = .ok (.iload_n 2, 1) := by decide +kernel
theorem dX11_order_141 : decode cX11_order 141 = .ok (.laload, 1) := by decide +kernel
theorem dX11_order_142 : decode cX11_order 142 = .ok (.lastore, 1) := by decide +kernel
theorem dX11_order_143 : decode cX11_order 143 = .ok (.iinc 1 1, 3) := by decide +kernel
theorem dX11_order_146 : decode cX11_order 146 = .ok (.iinc 2 1, 3) := by decide +kernel
theorem dX11_order_149 : decode cX11_order 149 = .ok (.goto (-48), 3) := by decide +kernel
theorem dX11_order_152 : decode cX11_order 152 = .ok (.aload_n 0, 1) := by decide +kernel
theorem dX11_order_153 : decode cX11_order 153 = .ok (.iload_n 1, 1) := by decide +kernel
theorem dX11_order_154 : decode cX11_order 154 = .ok (.putfield 344, 3) := by decide +kernel
theorem dX11_order_157 : decode cX11_order 157 = .ok (.return_, 1) := by decide +kernel
def f_Model_order_b146 (x1 : Int32) (x2 : Int32) (kh : Int32 → Int32 → MI → MJ → Prop) (I : MI) (J : MJ) : Prop :=
  ∀ t146 : Int32, t146 = x2 + 1 → kh x1 t146 I J
def f_Model_order_b131 (x1 : Int32) (x2 : Int32) (kh : Int32 → Int32 → MI → MJ → Prop) (I : MI) (J : MJ) : Prop :=
  vp_in x2 6000 ∧ vp_in x1 6000 ∧ ∀ J142 : MJ, J142 = sJ J 211 (vp_updL (J 211) x1.toNatClampNeg (J 211 x2.toNatClampNeg)) → ∀ t143 : Int32, t143 = x1 + 1 → f_Model_order_b146 t143 x2 kh I J142
def f_Model_order_L101 (k152 : Int32 → MI → MJ → Prop) : Nat → Int32 → Int32 → MI → MJ → Prop
  | 0, _, _, _, _ => False
  | nf101 + 1, x1, x2, I, J =>
  (if (I 177 42) ≤ x2 then k152 x1 I J else (if x1 = 0 then f_Model_order_b131 x1 x2 (f_Model_order_L101 k152 nf101) I J else vp_in (x1 - 1) 6000 ∧ vp_in x2 6000 ∧ (if (J 211 (x1 - 1).toNatClampNeg) = (J 211 x2.toNatClampNeg) then f_Model_order_b146 x1 x2 (f_Model_order_L101 k152 nf101) I J else f_Model_order_b131 x1 x2 (f_Model_order_L101 k152 nf101) I J)))
def f_Model_order_b76 (x2 : Int32) (x3 : Int64) (x5 : Int32) (kh : Int32 → MI → MJ → Prop) (I : MI) (J : MJ) : Prop :=
  vp_in x5 6000 ∧ ∀ J83 : MJ, J83 = sJ J 211 (vp_updL (J 211) x5.toNatClampNeg x3) → ∀ t84 : Int32, t84 = x2 + 1 → kh t84 I J83
def f_Model_order_L31 (x1 : Int32) (x3 : Int64) (k76 : Int32 → MI → MJ → Prop) : Nat → Int32 → MI → MJ → Prop
  | 0, _, _, _ => False
  | nf31 + 1, x5, I, J =>
  (if x5 < x1 then k76 x5 I J else vp_in (x5 - x1) 6000 ∧ (if (J 211 (x5 - x1).toNatClampNeg) ≤ x3 then k76 x5 I J else vp_in (x5 - x1) 6000 ∧ vp_in x5 6000 ∧ ∀ J66 : MJ, J66 = sJ J 211 (vp_updL (J 211) x5.toNatClampNeg (J 211 (x5 - x1).toNatClampNeg)) → ∀ t71 : Int32, t71 = x5 - x1 → f_Model_order_L31 x1 x3 k76 nf31 t71 I J66))
def f_Model_order_L13 (x1 : Int32) (k90 : MI → MJ → Prop) : Nat → Int32 → MI → MJ → Prop
  | 0, _, _, _ => False
  | nf13 + 1, x2, I, J =>
  (if (I 177 42) ≤ x2 then k90 I J else vp_in x2 6000 ∧ ∀ t27 : Int64, t27 = J 211 x2.toNatClampNeg → ∃ n, f_Model_order_L31 x1 t27 (fun (z76_x5 : Int32) (I : MI) (J : MJ) => f_Model_order_b76 x2 t27 z76_x5 (f_Model_order_L13 x1 k90 nf13) I J) n x2 I J)
def f_Model_order_L7 (k97 : MI → MJ → Prop) : Nat → Int32 → MI → MJ → Prop
  | 0, _, _, _ => False
  | nf7 + 1, x1, I, J =>
  (if x1 ≤ 0 then k97 I J else ∃ n, f_Model_order_L13 x1 (fun (I : MI) (J : MJ) => ∀ t93 : Int32, t93 = x1 / 2 → f_Model_order_L7 k97 nf7 t93 I J) n x1 I J)
def f_Model_order (I : MI) (J : MJ) (Q : MI → MJ → Prop) : Prop :=
  ∀ t6 : Int32, t6 = (I 177 42) / 2 → ∃ n, f_Model_order_L7 (fun (I : MI) (J : MJ) => ∃ n, f_Model_order_L101 (fun (z152_x1 : Int32) (I : MI) (J : MJ) => ∀ I154 : MI, I154 = sI I 177 (upd (I 177) 42 z152_x1) → Q I154 J) n 0 0 I J) n t6 I J
set_option maxRecDepth 100000 in
set_option maxHeartbeats 4000000 in
theorem w_Model_order_b146 {Γ : Ctx} {Q : MI → MJ → Prop} {x1 : Int32} {x2 : Int32} {kh : Int32 → Int32 → MI → MJ → Prop} (X : Cx Γ cX11_order 6 RX11 0) (Y : Rt Γ (Pv Q) (Option.none : Option Jvm.ClassFile.FieldType))  (hkh : ∀ (x1 : Int32) (x2 : Int32) (I : MI) (J : MJ), kh x1 x2 I J → Wp Γ 6 101 [(0, .ref (ad Γ 177)), (1, .int x1), (2, .int x2)] [] I J) {I : MI} {J : MJ} (h : f_Model_order_b146 x1 x2 kh I J) : Wp Γ 6 146 [(0, .ref (ad Γ 177)), (1, .int x1), (2, .int x2)] [] I J := by
  unfold f_Model_order_b146 at h
  obtain ⟨t146, et146⟩ : ∃ y : Int32, y = x2 + 1 := ⟨_, rfl⟩
  have h := h t146 et146
  refine wp_iinc (L' := [(2, .int t146), (0, .ref (ad Γ 177)), (1, .int x1)]) X dX11_order_146 2 rfl (ii_1 et146) (by decide) rfl ?_
  refine wp_goto (tgt := 101) X dX11_order_149 (by decide) ?_
  refine wp_sub X [1, 2, 0] rfl ?_
  exact hkh _ _ _ _ h

set_option maxRecDepth 100000 in
set_option maxHeartbeats 4000000 in
theorem w_Model_order_b131 {Γ : Ctx} {Q : MI → MJ → Prop} {x1 : Int32} {x2 : Int32} {kh : Int32 → Int32 → MI → MJ → Prop} (X : Cx Γ cX11_order 6 RX11 0) (Y : Rt Γ (Pv Q) (Option.none : Option Jvm.ClassFile.FieldType))  (hkh : ∀ (x1 : Int32) (x2 : Int32) (I : MI) (J : MJ), kh x1 x2 I J → Wp Γ 6 101 [(0, .ref (ad Γ 177)), (1, .int x1), (2, .int x2)] [] I J) {I : MI} {J : MJ} (h : f_Model_order_b131 x1 x2 kh I J) : Wp Γ 6 131 [(0, .ref (ad Γ 177)), (1, .int x1), (2, .int x2)] [] I J := by
  unfold f_Model_order_b131 at h
  refine wp_aload_n X dX11_order_131 0 rfl ?_
  refine gf_X11_111 (o' := 211) X sh_177 rfl dX11_order_132 ?_
  refine wp_iload_n X dX11_order_135 1 rfl ?_
  refine wp_aload_n X dX11_order_136 0 rfl ?_
  refine gf_X11_111 (o' := 211) X sh_177 rfl dX11_order_137 ?_
  refine wp_iload_n X dX11_order_140 2 rfl ?_
  obtain ⟨hb141, h⟩ := h
  refine wp_lald X sh_211 hb141 dX11_order_141 ?_
  obtain ⟨hb142, h⟩ := h
  refine wp_last X sh_211 hb142 dX11_order_142 ?_
  refine wp_memJ (fun J142 eJ142 => ?_)
  have h := h J142 eJ142
  obtain ⟨t143, et143⟩ : ∃ y : Int32, y = x1 + 1 := ⟨_, rfl⟩
  have h := h t143 et143
  refine wp_iinc (L' := [(1, .int t143), (0, .ref (ad Γ 177)), (2, .int x2)]) X dX11_order_143 1 rfl (ii_1 et143) (by decide) rfl ?_
  refine wp_sub X [1, 0, 2] rfl ?_
  exact w_Model_order_b146 X Y hkh h

set_option maxRecDepth 100000 in
set_option maxHeartbeats 4000000 in
theorem w_Model_order_L101 {Γ : Ctx} {Q : MI → MJ → Prop}  {k152 : Int32 → MI → MJ → Prop} (X : Cx Γ cX11_order 6 RX11 0) (Y : Rt Γ (Pv Q) (Option.none : Option Jvm.ClassFile.FieldType))  (hk152 : ∀ (x1 : Int32) (I : MI) (J : MJ), k152 x1 I J → Wp Γ 6 152 [(0, .ref (ad Γ 177)), (1, .int x1)] [] I J) : ∀ (n : Nat) (x1 : Int32) (x2 : Int32) (I : MI) (J : MJ), f_Model_order_L101 k152 n x1 x2 I J → Wp Γ 6 101 [(0, .ref (ad Γ 177)), (1, .int x1), (2, .int x2)] [] I J := by
  intro n
  induction n with
  | zero => intro x1 x2 I J h; exact absurd h (by simp [f_Model_order_L101])
  | succ n ih =>
  intro x1 x2 I J h
  unfold f_Model_order_L101 at h
  refine wp_iload_n X dX11_order_101 2 rfl ?_
  refine wp_aload_n X dX11_order_102 0 rfl ?_
  refine gf_X11_344 X sh_177 dX11_order_103 ?_
  refine wp_icmp_ge (tgt := 152) X dX11_order_106 (by decide) (fun hc => ?_) (fun hc => ?_)
  · have h := ite_t h hc
    refine wp_sub X [0, 1] rfl ?_
    exact hk152 _ _ _ h
  · have h := ite_f h hc
    refine wp_iload_n X dX11_order_109 1 rfl ?_
    refine wp_if_eq (tgt := 131) X dX11_order_110 (by decide) (fun hc => ?_) (fun hc => ?_)
    · have h := ite_t h hc
      exact w_Model_order_b131 X Y ih h
    · have h := ite_f h hc
      refine wp_aload_n X dX11_order_113 0 rfl ?_
      refine gf_X11_111 (o' := 211) X sh_177 rfl dX11_order_114 ?_
      refine wp_iload_n X dX11_order_117 1 rfl ?_
      refine wp_iconst X dX11_order_118 ic_1 ?_
      refine wp_isub X dX11_order_119 ?_
      obtain ⟨hb120, h⟩ := h
      refine wp_lald X sh_211 hb120 dX11_order_120 ?_
      refine wp_aload_n X dX11_order_121 0 rfl ?_
      refine gf_X11_111 (o' := 211) X sh_177 rfl dX11_order_122 ?_
      refine wp_iload_n X dX11_order_125 2 rfl ?_
      obtain ⟨hb126, h⟩ := h
      refine wp_lald X sh_211 hb126 dX11_order_126 ?_
      refine wp_lcmp_eq (tgt := 146) X dX11_order_127 dX11_order_128 (by decide) (fun hc => ?_) (fun hc => ?_)
      · have h := ite_t h hc
        exact w_Model_order_b146 X Y ih h
      · have h := ite_f h hc
        exact w_Model_order_b131 X Y ih h

set_option maxRecDepth 100000 in
set_option maxHeartbeats 4000000 in
theorem w_Model_order_b76 {Γ : Ctx} {Q : MI → MJ → Prop} {x1 : Int32} {x2 : Int32} {x3 : Int64} {x5 : Int32} {kh : Int32 → MI → MJ → Prop} (X : Cx Γ cX11_order 6 RX11 0) (Y : Rt Γ (Pv Q) (Option.none : Option Jvm.ClassFile.FieldType))  (hkh : ∀ (x2 : Int32) (I : MI) (J : MJ), kh x2 I J → Wp Γ 6 13 [(0, .ref (ad Γ 177)), (1, .int x1), (2, .int x2)] [] I J) {I : MI} {J : MJ} (h : f_Model_order_b76 x2 x3 x5 kh I J) : Wp Γ 6 76 [(0, .ref (ad Γ 177)), (1, .int x1), (2, .int x2), (3, .long x3), (5, .int x5)] [] I J := by
  unfold f_Model_order_b76 at h
  refine wp_aload_n X dX11_order_76 0 rfl ?_
  refine gf_X11_111 (o' := 211) X sh_177 rfl dX11_order_77 ?_
  refine wp_iload X dX11_order_80 4 rfl ?_
  refine wp_lload_n X dX11_order_82 3 rfl ?_
  obtain ⟨hb83, h⟩ := h
  refine wp_last X sh_211 hb83 dX11_order_83 ?_
  refine wp_memJ (fun J83 eJ83 => ?_)
  have h := h J83 eJ83
  obtain ⟨t84, et84⟩ : ∃ y : Int32, y = x2 + 1 := ⟨_, rfl⟩
  have h := h t84 et84
  refine wp_iinc (L' := [(2, .int t84), (0, .ref (ad Γ 177)), (1, .int x1), (3, .long x3), (5, .int x5)]) X dX11_order_84 2 rfl (ii_1 et84) (by decide) rfl ?_
  refine wp_goto (tgt := 13) X dX11_order_87 (by decide) ?_
  refine wp_sub X [1, 2, 0] rfl ?_
  exact hkh _ _ _ h

set_option maxRecDepth 100000 in
set_option maxHeartbeats 4000000 in
theorem w_Model_order_L31 {Γ : Ctx} {Q : MI → MJ → Prop} {x1 : Int32} {x2 : Int32} {x3 : Int64} {k76 : Int32 → MI → MJ → Prop} (X : Cx Γ cX11_order 6 RX11 0) (Y : Rt Γ (Pv Q) (Option.none : Option Jvm.ClassFile.FieldType))  (hk76 : ∀ (x5 : Int32) (I : MI) (J : MJ), k76 x5 I J → Wp Γ 6 76 [(0, .ref (ad Γ 177)), (1, .int x1), (2, .int x2), (3, .long x3), (5, .int x5)] [] I J) : ∀ (n : Nat) (x5 : Int32) (I : MI) (J : MJ), f_Model_order_L31 x1 x3 k76 n x5 I J → Wp Γ 6 31 [(0, .ref (ad Γ 177)), (1, .int x1), (2, .int x2), (3, .long x3), (5, .int x5)] [] I J := by
  intro n
  induction n with
  | zero => intro x5 I J h; exact absurd h (by simp [f_Model_order_L31])
  | succ n ih =>
  intro x5 I J h
  unfold f_Model_order_L31 at h
  refine wp_iload X dX11_order_31 4 rfl ?_
  refine wp_iload_n X dX11_order_33 1 rfl ?_
  refine wp_icmp_lt (tgt := 76) X dX11_order_34 (by decide) (fun hc => ?_) (fun hc => ?_)
  · have h := ite_t h hc
    exact hk76 _ _ _ h
  · have h := ite_f h hc
    refine wp_aload_n X dX11_order_37 0 rfl ?_
    refine gf_X11_111 (o' := 211) X sh_177 rfl dX11_order_38 ?_
    refine wp_iload X dX11_order_41 4 rfl ?_
    refine wp_iload_n X dX11_order_43 1 rfl ?_
    refine wp_isub X dX11_order_44 ?_
    obtain ⟨hb45, h⟩ := h
    refine wp_lald X sh_211 hb45 dX11_order_45 ?_
    refine wp_lload_n X dX11_order_46 3 rfl ?_
    refine wp_lcmp_le (tgt := 76) X dX11_order_47 dX11_order_48 (by decide) (fun hc => ?_) (fun hc => ?_)
    · have h := ite_t h hc
      exact hk76 _ _ _ h
    · have h := ite_f h hc
      refine wp_aload_n X dX11_order_51 0 rfl ?_
      refine gf_X11_111 (o' := 211) X sh_177 rfl dX11_order_52 ?_
      refine wp_iload X dX11_order_55 4 rfl ?_
      refine wp_aload_n X dX11_order_57 0 rfl ?_
      refine gf_X11_111 (o' := 211) X sh_177 rfl dX11_order_58 ?_
      refine wp_iload X dX11_order_61 4 rfl ?_
      refine wp_iload_n X dX11_order_63 1 rfl ?_
      refine wp_isub X dX11_order_64 ?_
      obtain ⟨hb65, h⟩ := h
      refine wp_lald X sh_211 hb65 dX11_order_65 ?_
      obtain ⟨hb66, h⟩ := h
      refine wp_last X sh_211 hb66 dX11_order_66 ?_
      refine wp_memJ (fun J66 eJ66 => ?_)
      have h := h J66 eJ66
      refine wp_iload X dX11_order_67 4 rfl ?_
      refine wp_iload_n X dX11_order_69 1 rfl ?_
      refine wp_isub X dX11_order_70 ?_
      refine wp_topi (fun t71 et71 => ?_)
      have h := h t71 et71
      refine wp_istore (L' := [(5, .int t71), (0, .ref (ad Γ 177)), (1, .int x1), (2, .int x2), (3, .long x3)]) X dX11_order_71 (by decide) rfl ?_
      refine wp_goto (tgt := 31) X dX11_order_73 (by decide) ?_
      refine wp_sub X [1, 2, 3, 4, 0] rfl ?_
      exact ih _ _ _ h

set_option maxRecDepth 100000 in
set_option maxHeartbeats 4000000 in
theorem w_Model_order_L13 {Γ : Ctx} {Q : MI → MJ → Prop} {x1 : Int32} {k90 : MI → MJ → Prop} (X : Cx Γ cX11_order 6 RX11 0) (Y : Rt Γ (Pv Q) (Option.none : Option Jvm.ClassFile.FieldType))  (hk90 : ∀ (I : MI) (J : MJ), k90 I J → Wp Γ 6 90 [(0, .ref (ad Γ 177)), (1, .int x1)] [] I J) : ∀ (n : Nat) (x2 : Int32) (I : MI) (J : MJ), f_Model_order_L13 x1 k90 n x2 I J → Wp Γ 6 13 [(0, .ref (ad Γ 177)), (1, .int x1), (2, .int x2)] [] I J := by
  intro n
  induction n with
  | zero => intro x2 I J h; exact absurd h (by simp [f_Model_order_L13])
  | succ n ih =>
  intro x2 I J h
  unfold f_Model_order_L13 at h
  refine wp_iload_n X dX11_order_13 2 rfl ?_
  refine wp_aload_n X dX11_order_14 0 rfl ?_
  refine gf_X11_344 X sh_177 dX11_order_15 ?_
  refine wp_icmp_ge (tgt := 90) X dX11_order_18 (by decide) (fun hc => ?_) (fun hc => ?_)
  · have h := ite_t h hc
    refine wp_sub X [0, 1] rfl ?_
    exact hk90 _ _ h
  · have h := ite_f h hc
    refine wp_aload_n X dX11_order_21 0 rfl ?_
    refine gf_X11_111 (o' := 211) X sh_177 rfl dX11_order_22 ?_
    refine wp_iload_n X dX11_order_25 2 rfl ?_
    obtain ⟨hb26, h⟩ := h
    refine wp_lald X sh_211 hb26 dX11_order_26 ?_
    refine wp_topl (fun t27 et27 => ?_)
    have h := h t27 et27
    refine wp_lstore_n (L' := [(3, .long t27), (0, .ref (ad Γ 177)), (1, .int x1), (2, .int x2)]) X dX11_order_27 rfl (by decide) rfl ?_
    refine wp_iload_n X dX11_order_28 3 rfl ?_
    refine wp_istore (L' := [(5, .int x2), (3, .long t27), (0, .ref (ad Γ 177)), (1, .int x1), (2, .int x2)]) X dX11_order_29 (by decide) rfl ?_
    obtain ⟨n, h⟩ := h
    refine wp_sub X [2, 3, 4, 1, 0] rfl ?_
    refine w_Model_order_L31 X Y  ?_ n _ _ _ h
    · intro z76_x5 I J h
      exact w_Model_order_b76 X Y ih h

set_option maxRecDepth 100000 in
set_option maxHeartbeats 4000000 in
theorem w_Model_order_L7 {Γ : Ctx} {Q : MI → MJ → Prop}  {k97 : MI → MJ → Prop} (X : Cx Γ cX11_order 6 RX11 0) (Y : Rt Γ (Pv Q) (Option.none : Option Jvm.ClassFile.FieldType))  (hk97 : ∀ (I : MI) (J : MJ), k97 I J → Wp Γ 6 97 [(0, .ref (ad Γ 177))] [] I J) : ∀ (n : Nat) (x1 : Int32) (I : MI) (J : MJ), f_Model_order_L7 k97 n x1 I J → Wp Γ 6 7 [(0, .ref (ad Γ 177)), (1, .int x1)] [] I J := by
  intro n
  induction n with
  | zero => intro x1 I J h; exact absurd h (by simp [f_Model_order_L7])
  | succ n ih =>
  intro x1 I J h
  unfold f_Model_order_L7 at h
  refine wp_iload_n X dX11_order_7 1 rfl ?_
  refine wp_if_le (tgt := 97) X dX11_order_8 (by decide) (fun hc => ?_) (fun hc => ?_)
  · have h := ite_t h hc
    refine wp_sub X [0] rfl ?_
    exact hk97 _ _ h
  · have h := ite_f h hc
    refine wp_iload_n X dX11_order_11 1 rfl ?_
    refine wp_istore_n (L' := [(2, .int x1), (0, .ref (ad Γ 177)), (1, .int x1)]) X dX11_order_12 rfl (by decide) rfl ?_
    obtain ⟨n, h⟩ := h
    refine wp_sub X [1, 2, 0] rfl ?_
    refine w_Model_order_L13 X Y  ?_ n _ _ _ h
    · intro I J h
      refine wp_iload_n X dX11_order_90 1 rfl ?_
      refine wp_iconst X dX11_order_91 ic_2 ?_
      refine wp_idiv X dX11_order_92 (by decide) ?_
      refine wp_topi (fun t93 et93 => ?_)
      have h := h t93 et93
      refine wp_istore_n (L' := [(1, .int t93), (0, .ref (ad Γ 177))]) X dX11_order_93 rfl (by decide) rfl ?_
      refine wp_goto (tgt := 7) X dX11_order_94 (by decide) ?_
      refine wp_sub X [1, 0] rfl ?_
      exact ih _ _ _ h

set_option maxRecDepth 100000 in
set_option maxHeartbeats 4000000 in
theorem w_Model_order_b0 {Γ : Ctx} {Q : MI → MJ → Prop}   (X : Cx Γ cX11_order 6 RX11 0) (Y : Rt Γ (Pv Q) (Option.none : Option Jvm.ClassFile.FieldType))   {I : MI} {J : MJ} (h : f_Model_order  I J Q) : Wp Γ 6 0 [(0, .ref (ad Γ 177))] [] I J := by
  unfold f_Model_order at h
  refine wp_aload_n X dX11_order_0 0 rfl ?_
  refine gf_X11_344 X sh_177 dX11_order_1 ?_
  refine wp_iconst X dX11_order_4 ic_2 ?_
  refine wp_idiv X dX11_order_5 (by decide) ?_
  refine wp_topi (fun t6 et6 => ?_)
  have h := h t6 et6
  refine wp_istore_n (L' := [(1, .int t6), (0, .ref (ad Γ 177))]) X dX11_order_6 rfl (by decide) rfl ?_
  obtain ⟨n, h⟩ := h
  refine wp_sub X [1, 0] rfl ?_
  refine w_Model_order_L7 X Y  ?_ n _ _ _ h
  · intro I J h
    refine wp_iconst X dX11_order_97 ic_0 ?_
    refine wp_istore_n (L' := [(1, .int 0), (0, .ref (ad Γ 177))]) X dX11_order_98 rfl (by decide) rfl ?_
    refine wp_iconst X dX11_order_99 ic_0 ?_
    refine wp_istore_n (L' := [(2, .int 0), (1, .int 0), (0, .ref (ad Γ 177))]) X dX11_order_100 rfl (by decide) rfl ?_
    obtain ⟨n, h⟩ := h
    refine wp_sub X [2, 1, 0] rfl ?_
    refine w_Model_order_L101 X Y  ?_ n _ _ _ _ h
    · intro z152_x1 I J h
      refine wp_aload_n X dX11_order_152 0 rfl ?_
      refine wp_iload_n X dX11_order_153 1 rfl ?_
      refine pf_X11_344 X sh_177 dX11_order_154 (fun I154 eI154 => ?_)
      have h := h I154 eI154
      exact wp_vret X Y dX11_order_157 ⟨rfl, h⟩

theorem c_Model_order {l : Launch} {g : GE} (hg : Inj g) {I : MI} {J : MJ} {Q : MI → MJ → Prop}   (h : f_Model_order  I J Q) : Cm l g yX11_order cX11_order 6 (Option.none : Option Jvm.ClassFile.FieldType) 0 [.ref (g.1 177)] I J (Pv Q) := by
  refine Cm.of (As := fun ad => [.ref (ad 177)]) hg pn_X11 (Nat.le_of_ble_eq_true rfl) ?_
  exact (fun Γ _ _ X Y => w_Model_order_b0 X Y  h)
theorem cv_Model_order {Γ : Ctx} {cc : ByteArray} {nL d pc index : Nat} {own : String} {L : List (Nat × Value)} {rest : List Value} {I : MI} {J : MJ} {Q : MI → MJ → Prop}  (X : Cx Γ cc nL own d) (hd : decode cc pc = .ok (.invokevirtual index, 3)) (hlink : Cond.methodLink own index yX11_order ∈ TT)  (h : f_Model_order  I J Q) (hrest : (rest.map fun v => v.category).sum ≤ 8) (hdd : 0 + 1 ≤ d) (kk : ∀ (I' : MI) (J' : MJ), Q I' J' → Wp Γ nL (pc + 3) L rest I' J') : Wp Γ nL pc L (.ref (ad Γ 177) :: rest) I J :=
  wp_callV (As := []) (rest := rest) (T := TX11) (N := 62) X hd hlink mv_X11_order sh_177 (by decide) rfl (c_Model_order X.inj  h) rfl rfl hrest hdd (fun v I' J' hv => by obtain ⟨rfl, hq⟩ := hv; exact kk I' J' hq)
theorem dX11_joined_0 : decode cX11_joined 0 = .ok (.lload_n 2, 1) := by decide +kernel
theorem dX11_joined_1 : decode cX11_joined 1 = .ok (.invokestatic 161, 3) := by decide +kernel
theorem dX11_joined_4 : decode cX11_joined 4 = .ok (.istore 4, 2) := by decide +kernel
theorem dX11_joined_6 : decode cX11_joined 6 = .ok (.lload_n 0, 1) := by decide +kernel
theorem dX11_joined_7 : decode cX11_joined 7 = .ok (.iconst 2, 1) := by decide +kernel
theorem dX11_joined_8 : decode cX11_joined 8 = .ok (.iload 4, 2) := by decide +kernel
theorem dX11_joined_10 : decode cX11_joined 10 = .ok (.imul, 1) := by decide +kernel
theorem dX11_joined_11 : decode cX11_joined 11 = .ok (.lshl, 1) := by decide +kernel
theorem dX11_joined_12 : decode cX11_joined 12 = .ok (.lload_n 2, 1) := by decide +kernel
theorem dX11_joined_13 : decode cX11_joined 13 = .ok (.lconst 1, 1) := by decide +kernel
theorem dX11_joined_14 : decode cX11_joined 14 = .ok (.iconst 2, 1) := by decide +kernel
theorem dX11_joined_15 : decode cX11_joined 15 = .ok (.iload 4, 2) := by decide +kernel
theorem dX11_joined_17 : decode cX11_joined 17 = .ok (.imul, 1) := by decide +kernel
theorem dX11_joined_18 : decode cX11_joined 18 = .ok (.lshl, 1) := by decide +kernel
theorem dX11_joined_19 : decode cX11_joined 19 = .ok (.lsub, 1) := by decide +kernel
theorem dX11_joined_20 : decode cX11_joined 20 = .ok (.ladd, 1) := by decide +kernel
theorem dX11_joined_21 : decode cX11_joined 21 = .ok (.lreturn, 1) := by decide +kernel
def f_Model_joined (x0 : Int64) (x2 : Int64) (I : MI) (J : MJ) (Q : Int64 → MI → MJ → Prop) : Prop :=
  f_Model_lengthOf x2 I J (fun r1 I1 J1 => Q ((x0 <<< ((2 * r1).toInt64 &&& 63)) + (x2 - ((1 : Int64) <<< ((2 * r1).toInt64 &&& 63)))) I1 J1)
set_option maxRecDepth 100000 in
set_option maxHeartbeats 4000000 in
theorem w_Model_joined_b0 {Γ : Ctx} {Q : Int64 → MI → MJ → Prop} {x0 : Int64} {x2 : Int64}  (X : Cx Γ cX11_joined 5 RX11 1) (Y : Rt Γ (Pl Q) (Option.some Jvm.ClassFile.FieldType.long))   {I : MI} {J : MJ} (h : f_Model_joined x0 x2 I J Q) : Wp Γ 5 0 [(0, .long x0), (2, .long x2)] [] I J := by
  unfold f_Model_joined at h
  refine wp_lload_n X dX11_joined_0 1 rfl ?_
  refine cs_Model_lengthOf X dX11_joined_1 ml_X11_161  h (Nat.le_of_ble_eq_true rfl) (by decide) (fun r1 I1 J1 h => ?_)
  refine wp_istore (L' := [(4, .int r1), (0, .long x0), (2, .long x2)]) X dX11_joined_4 (by decide) rfl ?_
  refine wp_lload_n X dX11_joined_6 1 rfl ?_
  refine wp_iconst X dX11_joined_7 ic_2 ?_
  refine wp_iload X dX11_joined_8 0 rfl ?_
  refine wp_imul X dX11_joined_10 ?_
  refine wp_lshl X dX11_joined_11 ?_
  refine wp_lload_n X dX11_joined_12 2 rfl ?_
  refine wp_lconst X dX11_joined_13 lc_1 ?_
  refine wp_iconst X dX11_joined_14 ic_2 ?_
  refine wp_iload X dX11_joined_15 0 rfl ?_
  refine wp_imul X dX11_joined_17 ?_
  refine wp_lshl X dX11_joined_18 ?_
  refine wp_lsub X dX11_joined_19 ?_
  refine wp_ladd X dX11_joined_20 ?_
  exact wp_lret X Y dX11_joined_21 ⟨_, rfl, h⟩

theorem c_Model_joined {l : Launch} {g : GE} (hg : Inj g) {I : MI} {J : MJ} {Q : Int64 → MI → MJ → Prop} {x0 : Int64} {x2 : Int64}  (h : f_Model_joined x0 x2 I J Q) : Cm l g yX11_joined cX11_joined 5 (Option.some Jvm.ClassFile.FieldType.long) 1 [.long x0, .long x2] I J (Pl Q) := by
  refine Cm.of (As := fun ad => [.long x0, .long x2]) hg pn_X11 (Nat.le_of_ble_eq_true rfl) ?_
  exact (fun Γ _ _ X Y => w_Model_joined_b0 X Y  h)
theorem cs_Model_joined {Γ : Ctx} {cc : ByteArray} {nL d pc index : Nat} {own : String} {L : List (Nat × Value)} {rest : List Value} {I : MI} {J : MJ} {Q : Int64 → MI → MJ → Prop} {x0 : Int64} {x2 : Int64} (X : Cx Γ cc nL own d) (hd : decode cc pc = .ok (.invokestatic index, 3)) (hlink : Cond.methodLink own index yX11_joined ∈ TT)  (h : f_Model_joined x0 x2 I J Q) (hrest : (rest.map fun v => v.category).sum ≤ 8) (hdd : 1 + 1 ≤ d) (kk : ∀ (r : Int64) (I' : MI) (J' : MJ), Q r I' J' → Wp Γ nL (pc + 3) L (.long r :: rest) I' J') : Wp Γ nL pc L (.long x2 :: .long x0 :: rest) I J :=
  wp_callS (As := [.long x0, .long x2]) (rest := rest) X hd hlink mv_X11_joined (c_Model_joined X.inj  h) rfl rfl hrest hdd (fun v I' J' hv => by obtain ⟨r, rfl, hq⟩ := hv; exact kk r I' J' hq)
theorem dX11_findSuite_0 : decode cX11_findSuite 0 = .ok (.aload_n 0, 1) := by decide +kernel
theorem dX11_findSuite_1 : decode cX11_findSuite 1 = .ok (.iload_n 1, 1) := by decide +kernel
theorem dX11_findSuite_2 : decode cX11_findSuite 2 = .ok (.invokevirtual 242, 3) := by decide +kernel
theorem dX11_findSuite_5 : decode cX11_findSuite 5 = .ok (.ifCond .eq 45, 3) := by decide +kernel
theorem dX11_findSuite_8 : decode cX11_findSuite 8 = .ok (.iload_n 2, 1) := by decide +kernel
theorem dX11_findSuite_9 : decode cX11_findSuite 9 = .ok (.ifCond .lt 41, 3) := by decide +kernel
theorem dX11_findSuite_12 : decode cX11_findSuite 12 = .ok (.iload_n 2, 1) := by decide +kernel
theorem dX11_findSuite_13 : decode cX11_findSuite 13 = .ok (.iconst 2, 1) := by decide +kernel
theorem dX11_findSuite_14 : decode cX11_findSuite 14 = .ok (.if_icmp .gt 36, 3) := by decide +kernel
theorem dX11_findSuite_17 : decode cX11_findSuite 17 = .ok (.aload_n 0, 1) := by decide +kernel
theorem dX11_findSuite_18 : decode cX11_findSuite 18 = .ok (.iload_n 1, 1) := by decide +kernel
theorem dX11_findSuite_19 : decode cX11_findSuite 19 = .ok (.bipush 18, 2) := by decide +kernel
theorem dX11_findSuite_21 : decode cX11_findSuite 21 = .ok (.invokevirtual 276, 3) := by decide +kernel
theorem dX11_findSuite_24 : decode cX11_findSuite 24 = .ok (.ifCond .eq 26, 3) := by decide +kernel
theorem dX11_findSuite_27 : decode cX11_findSuite 27 = .ok (.aload_n 0, 1) := by decide +kernel
theorem dX11_findSuite_28 : decode cX11_findSuite 28 = .ok (.getfield 33, 3) := by decide +kernel
theorem dX11_findSuite_31 : decode cX11_findSuite 31 = .ok (.bipush 18, 2) := by decide +kernel
theorem dX11_findSuite_33 : decode cX11_findSuite 33 = .ok (.iaload, 1) := by decide +kernel
theorem dX11_findSuite_34 : decode cX11_findSuite 34 = .ok (.bipush 6, 2) := by decide +kernel
theorem dX11_findSuite_36 : decode cX11_findSuite 36 = .ok (.if_icmp .gt 14, 3) := by decide +kernel
theorem dX11_findSuite_39 : decode cX11_findSuite 39 = .ok (.aload_n 0, 1) := by decide +kernel
theorem dX11_findSuite_40 : decode cX11_findSuite 40 = .ok (.getfield 36, 3) := by decide +kernel
theorem dX11_findSuite_43 : decode cX11_findSuite 43 = .ok (.bipush 18, 2) := by decide +kernel
theorem dX11_findSuite_45 : decode cX11_findSuite 45 = .ok (.iaload, 1) := by decide +kernel
theorem dX11_findSuite_46 : decode cX11_findSuite 46 = .ok (.iconst 3, 1) := by decide +kernel
theorem dX11_findSuite_47 : decode cX11_findSuite 47 = .ok (.if_icmp .le 5, 3) := by decide +kernel
theorem dX11_findSuite_50 : decode cX11_findSuite 50 = .ok (.iconst 0, 1) := by decide +kernel
theorem dX11_findSuite_51 : decode cX11_findSuite 51 = .ok (.ireturn, 1) := by decide +kernel
theorem dX11_findSuite_52 : decode cX11_findSuite 52 = .ok (.aload_n 0, 1) := by decide +kernel
theorem dX11_findSuite_53 : decode cX11_findSuite 53 = .ok (.iload_n 2, 1) := by decide +kernel
theorem dX11_findSuite_54 : decode cX11_findSuite 54 = .ok (.invokevirtual 347, 3) := by decide +kernel
theorem dX11_findSuite_57 : decode cX11_findSuite 57 = .ok (.aload_n 0, 1) := by decide +kernel
theorem dX11_findSuite_58 : decode cX11_findSuite 58 = .ok (.iconst 0, 1) := by decide +kernel
theorem dX11_findSuite_59 : decode cX11_findSuite 59 = .ok (.putfield 344, 3) := by decide +kernel
theorem dX11_findSuite_62 : decode cX11_findSuite 62 = .ok (.iconst 0, 1) := by decide +kernel
theorem dX11_findSuite_63 : decode cX11_findSuite 63 = .ok (.istore_n 3, 1) := by decide +kernel
theorem dX11_findSuite_64 : decode cX11_findSuite 64 = .ok (.iload_n 3, 1) := by decide +kernel
theorem dX11_findSuite_65 : decode cX11_findSuite 65 = .ok (.aload_n 0, 1) := by decide +kernel
theorem dX11_findSuite_66 : decode cX11_findSuite 66 = .ok (.getfield 335, 3) := by decide +kernel
theorem dX11_findSuite_69 : decode cX11_findSuite 69 = .ok (.if_icmp .ge 90, 3) := by decide +kernel
theorem dX11_findSuite_72 : decode cX11_findSuite 72 = .ok (.iconst 0, 1) := by decide +kernel
theorem dX11_findSuite_73 : decode cX11_findSuite 73 = .ok (.istore 4, 2) := by decide +kernel
theorem dX11_findSuite_75 : decode cX11_findSuite 75 = .ok (.iload 4, 2) := by decide +kernel
theorem dX11_findSuite_77 : decode cX11_findSuite 77 = .ok (.aload_n 0, 1) := by decide +kernel
theorem dX11_findSuite_78 : decode cX11_findSuite 78 = .ok (.getfield 338, 3) := by decide +kernel
theorem dX11_findSuite_81 : decode cX11_findSuite 81 = .ok (.if_icmp .ge 72, 3) := by decide +kernel
theorem dX11_findSuite_84 : decode cX11_findSuite 84 = .ok (.iconst 0, 1) := by decide +kernel
theorem dX11_findSuite_85 : decode cX11_findSuite 85 = .ok (.istore 5, 2) := by decide +kernel
theorem dX11_findSuite_87 : decode cX11_findSuite 87 = .ok (.iload 5, 2) := by decide +kernel
theorem dX11_findSuite_89 : decode cX11_findSuite 89 = .ok (.aload_n 0, 1) := by decide +kernel
theorem dX11_findSuite_90 : decode cX11_findSuite 90 = .ok (.getfield 341, 3) := by decide +kernel
theorem dX11_findSuite_93 : decode cX11_findSuite 93 = .ok (.if_icmp .ge 54, 3) := by decide +kernel
theorem dX11_findSuite_96 : decode cX11_findSuite 96 = .ok (.aload_n 0, 1) := by decide +kernel
theorem dX11_findSuite_97 : decode cX11_findSuite 97 = .ok (.getfield 111, 3) := by decide +kernel
theorem dX11_findSuite_100 : decode cX11_findSuite 100 = .ok (.aload_n 0, 1) := by decide +kernel
theorem dX11_findSuite_101 : decode cX11_findSuite 101 = .ok (.getfield 344, 3) := by decide +kernel
theorem dX11_findSuite_104 : decode cX11_findSuite 104 = .ok (.aload_n 0, 1) := by decide +kernel
theorem dX11_findSuite_105 : decode cX11_findSuite 105 = .ok (.getfield 114, 3) := by decide +kernel
theorem dX11_findSuite_108 : decode cX11_findSuite 108 = .ok (.iload_n 3, 1) := by decide +kernel
theorem dX11_findSuite_109 : decode cX11_findSuite 109 = .ok (.laload, 1) := by decide +kernel
theorem dX11_findSuite_110 : decode cX11_findSuite 110 = .ok (.aload_n 0, 1) := by decide +kernel
theorem dX11_findSuite_111 : decode cX11_findSuite 111 = .ok (.getfield 117, 3) := by decide +kernel
theorem dX11_findSuite_114 : decode cX11_findSuite 114 = .ok (.iload 4, 2) := by decide +kernel
theorem dX11_findSuite_116 : decode cX11_findSuite 116 = .ok (.laload, 1) := by decide +kernel
theorem dX11_findSuite_117 : decode cX11_findSuite 117 = .ok (.invokestatic 350, 3) := by decide +kernel
theorem dX11_findSuite_120 : decode cX11_findSuite 120 = .ok (.aload_n 0, 1) := by decide +kernel
theorem dX11_findSuite_121 : decode cX11_findSuite 121 = .ok (.getfield 120, 3) := by decide +kernel
theorem dX11_findSuite_124 : decode cX11_findSuite 124 = .ok (.iload 5, 2) := by decide +kernel
theorem dX11_findSuite_126 : decode cX11_findSuite 126 = .ok (.laload, 1) := by decide +kernel
theorem dX11_findSuite_127 : decode cX11_findSuite 127 = .ok (.invokestatic 350, 3) := by decide +kernel
theorem dX11_findSuite_130 : decode cX11_findSuite 130 = .ok (.lastore, 1) := by decide +kernel
theorem dX11_findSuite_131 : decode cX11_findSuite 131 = .ok (.aload_n 0, 1) := by decide +kernel
theorem dX11_findSuite_132 : decode cX11_findSuite 132 = .ok (.dup, 1) := by decide +kernel
theorem dX11_findSuite_133 : decode cX11_findSuite 133 = .ok (.getfield 344, 3) := by decide +kernel
theorem dX11_findSuite_136 : decode cX11_findSuite 136 = .ok (.iconst 1, 1) := by decide +kernel
theorem dX11_findSuite_137 : decode cX11_findSuite 137 = .ok (.iadd, 1) := by decide +kernel
theorem dX11_findSuite_138 : decode cX11_findSuite 138 = .ok (.putfield 344, 3) := by decide +kernel
theorem dX11_findSuite_141 : decode cX11_findSuite 141 = .ok (.iinc 5 1, 3) := by decide +kernel
theorem dX11_findSuite_144 : decode cX11_findSuite 144 = .ok (.goto (-57), 3) := by decide +kernel
theorem dX11_findSuite_147 : decode cX11_findSuite 147 = .ok (.iinc 4 1, 3) := by decide +kernel
theorem dX11_findSuite_150 : decode cX11_findSuite 150 = .ok (.goto (-75), 3) := by decide +kernel
theorem dX11_findSuite_153 : decode cX11_findSuite 153 = .ok (.iinc 3 1, 3) := by decide +kernel
theorem dX11_findSuite_156 : decode cX11_findSuite 156 = .ok (.goto (-92), 3) := by decide +kernel
theorem dX11_findSuite_159 : decode cX11_findSuite 159 = .ok (.aload_n 0, 1) := by decide +kernel
theorem dX11_findSuite_160 : decode cX11_findSuite 160 = .ok (.invokevirtual 354, 3) := by decide +kernel
theorem dX11_findSuite_163 : decode cX11_findSuite 163 = .ok (.iconst 1, 1) := by decide +kernel
theorem dX11_findSuite_164 : decode cX11_findSuite 164 = .ok (.ireturn, 1) := by decide +kernel
def f_Model_findSuite_L87 (x3 : Int32) (x4 : Int32) (k147 : MI → MJ → Prop) : Nat → Int32 → MI → MJ → Prop
  | 0, _, _, _ => False
  | nf87 + 1, x5, I, J =>
  (if (I 177 48) ≤ x5 then k147 I J else vp_in x3 32 ∧ vp_in x4 16 ∧ f_Model_joined (J 212 x3.toNatClampNeg) (J 213 x4.toNatClampNeg) I J (fun r117 I117 J117 => vp_in x5 16 ∧ f_Model_joined r117 (J117 214 x5.toNatClampNeg) I117 J117 (fun r127 I127 J127 => vp_in (I 177 42) 6000 ∧ ∀ J130 : MJ, J130 = sJ J127 211 (vp_updL (J127 211) (I 177 42).toNatClampNeg r127) → ∀ I138 : MI, I138 = sI I127 177 (upd (I127 177) 42 ((I127 177 42) + 1)) → ∀ t141 : Int32, t141 = x5 + 1 → f_Model_findSuite_L87 x3 x4 k147 nf87 t141 I138 J130)))
def f_Model_findSuite_L75 (x3 : Int32) (k153 : MI → MJ → Prop) : Nat → Int32 → MI → MJ → Prop
  | 0, _, _, _ => False
  | nf75 + 1, x4, I, J =>
  (if (I 177 47) ≤ x4 then k153 I J else ∃ n, f_Model_findSuite_L87 x3 x4 (fun (I : MI) (J : MJ) => ∀ t147 : Int32, t147 = x4 + 1 → f_Model_findSuite_L75 x3 k153 nf75 t147 I J) n 0 I J)
def f_Model_findSuite_L64 (k159 : MI → MJ → Prop) : Nat → Int32 → MI → MJ → Prop
  | 0, _, _, _ => False
  | nf64 + 1, x3, I, J =>
  (if (I 177 46) ≤ x3 then k159 I J else ∃ n, f_Model_findSuite_L75 x3 (fun (I : MI) (J : MJ) => ∀ t153 : Int32, t153 = x3 + 1 → f_Model_findSuite_L64 k159 nf64 t153 I J) n 0 I J)
def f_Model_findSuite (x1 : Int32) (x2 : Int32) (I : MI) (J : MJ) (Q : Int32 → MI → MJ → Prop) : Prop :=
  f_Model_isMachine x1 I J (fun r2 I2 J2 => (if r2 = 0 then Q 0 I2 J2 else (if x2 < 0 then Q 0 I2 J2 else (if 2 < x2 then Q 0 I2 J2 else f_Model_findLeast x1 (18 : Int32) I2 J2 (fun r21 I21 J21 => (if r21 = 0 then Q 0 I21 J21 else vp_in 18 20 ∧ (if 6 < (I21 185 (18 : Int32).toNatClampNeg) then Q 0 I21 J21 else vp_in 18 20 ∧ (if (I21 186 (18 : Int32).toNatClampNeg) ≤ 3 then f_Model_findParts x2 I21 J21 (fun I54 J54 => ∀ I59 : MI, I59 = sI I54 177 (upd (I54 177) 42 0) → ∃ n, f_Model_findSuite_L64 (fun (I : MI) (J : MJ) => f_Model_order I J (fun I160 J160 => Q 1 I160 J160)) n 0 I59 J54) else Q 0 I21 J21))))))))
set_option maxRecDepth 100000 in
set_option maxHeartbeats 4000000 in
theorem w_Model_findSuite_L87 {Γ : Ctx} {Q : Int32 → MI → MJ → Prop} {x3 : Int32} {x4 : Int32} {k147 : MI → MJ → Prop} (X : Cx Γ cX11_findSuite 6 RX11 4) (Y : Rt Γ (Pi Q) (Option.some Jvm.ClassFile.FieldType.boolean))  (hk147 : ∀ (I : MI) (J : MJ), k147 I J → Wp Γ 6 147 [(0, .ref (ad Γ 177)), (3, .int x3), (4, .int x4)] [] I J) : ∀ (n : Nat) (x5 : Int32) (I : MI) (J : MJ), f_Model_findSuite_L87 x3 x4 k147 n x5 I J → Wp Γ 6 87 [(0, .ref (ad Γ 177)), (3, .int x3), (4, .int x4), (5, .int x5)] [] I J := by
  intro n
  induction n with
  | zero => intro x5 I J h; exact absurd h (by simp [f_Model_findSuite_L87])
  | succ n ih =>
  intro x5 I J h
  unfold f_Model_findSuite_L87 at h
  refine wp_iload X dX11_findSuite_87 3 rfl ?_
  refine wp_aload_n X dX11_findSuite_89 0 rfl ?_
  refine gf_X11_341 X sh_177 dX11_findSuite_90 ?_
  refine wp_icmp_ge (tgt := 147) X dX11_findSuite_93 (by decide) (fun hc => ?_) (fun hc => ?_)
  · have h := ite_t h hc
    refine wp_sub X [0, 1, 2] rfl ?_
    exact hk147 _ _ h
  · have h := ite_f h hc
    refine wp_aload_n X dX11_findSuite_96 0 rfl ?_
    refine gf_X11_111 (o' := 211) X sh_177 rfl dX11_findSuite_97 ?_
    refine wp_aload_n X dX11_findSuite_100 0 rfl ?_
    refine gf_X11_344 X sh_177 dX11_findSuite_101 ?_
    refine wp_aload_n X dX11_findSuite_104 0 rfl ?_
    refine gf_X11_114 (o' := 212) X sh_177 rfl dX11_findSuite_105 ?_
    refine wp_iload_n X dX11_findSuite_108 1 rfl ?_
    obtain ⟨hb109, h⟩ := h
    refine wp_lald X sh_212 hb109 dX11_findSuite_109 ?_
    refine wp_aload_n X dX11_findSuite_110 0 rfl ?_
    refine gf_X11_117 (o' := 213) X sh_177 rfl dX11_findSuite_111 ?_
    refine wp_iload X dX11_findSuite_114 2 rfl ?_
    obtain ⟨hb116, h⟩ := h
    refine wp_lald X sh_213 hb116 dX11_findSuite_116 ?_
    refine cs_Model_joined X dX11_findSuite_117 ml_X11_350  h (Nat.le_of_ble_eq_true rfl) (by decide) (fun r117 I117 J117 h => ?_)
    refine wp_aload_n X dX11_findSuite_120 0 rfl ?_
    refine gf_X11_120 (o' := 214) X sh_177 rfl dX11_findSuite_121 ?_
    refine wp_iload X dX11_findSuite_124 3 rfl ?_
    obtain ⟨hb126, h⟩ := h
    refine wp_lald X sh_214 hb126 dX11_findSuite_126 ?_
    refine cs_Model_joined X dX11_findSuite_127 ml_X11_350  h (Nat.le_of_ble_eq_true rfl) (by decide) (fun r127 I127 J127 h => ?_)
    obtain ⟨hb130, h⟩ := h
    refine wp_last X sh_211 hb130 dX11_findSuite_130 ?_
    refine wp_memJ (fun J130 eJ130 => ?_)
    have h := h J130 eJ130
    refine wp_aload_n X dX11_findSuite_131 0 rfl ?_
    refine wp_dup X dX11_findSuite_132 rfl ?_
    refine gf_X11_344 X sh_177 dX11_findSuite_133 ?_
    refine wp_iconst X dX11_findSuite_136 ic_1 ?_
    refine wp_iadd X dX11_findSuite_137 ?_
    refine pf_X11_344 X sh_177 dX11_findSuite_138 (fun I138 eI138 => ?_)
    have h := h I138 eI138
    obtain ⟨t141, et141⟩ : ∃ y : Int32, y = x5 + 1 := ⟨_, rfl⟩
    have h := h t141 et141
    refine wp_iinc (L' := [(5, .int t141), (0, .ref (ad Γ 177)), (3, .int x3), (4, .int x4)]) X dX11_findSuite_141 3 rfl (ii_1 et141) (by decide) rfl ?_
    refine wp_goto (tgt := 87) X dX11_findSuite_144 (by decide) ?_
    refine wp_sub X [1, 2, 3, 0] rfl ?_
    exact ih _ _ _ h

set_option maxRecDepth 100000 in
set_option maxHeartbeats 4000000 in
theorem w_Model_findSuite_L75 {Γ : Ctx} {Q : Int32 → MI → MJ → Prop} {x3 : Int32} {k153 : MI → MJ → Prop} (X : Cx Γ cX11_findSuite 6 RX11 4) (Y : Rt Γ (Pi Q) (Option.some Jvm.ClassFile.FieldType.boolean))  (hk153 : ∀ (I : MI) (J : MJ), k153 I J → Wp Γ 6 153 [(0, .ref (ad Γ 177)), (3, .int x3)] [] I J) : ∀ (n : Nat) (x4 : Int32) (I : MI) (J : MJ), f_Model_findSuite_L75 x3 k153 n x4 I J → Wp Γ 6 75 [(0, .ref (ad Γ 177)), (3, .int x3), (4, .int x4)] [] I J := by
  intro n
  induction n with
  | zero => intro x4 I J h; exact absurd h (by simp [f_Model_findSuite_L75])
  | succ n ih =>
  intro x4 I J h
  unfold f_Model_findSuite_L75 at h
  refine wp_iload X dX11_findSuite_75 2 rfl ?_
  refine wp_aload_n X dX11_findSuite_77 0 rfl ?_
  refine gf_X11_338 X sh_177 dX11_findSuite_78 ?_
  refine wp_icmp_ge (tgt := 153) X dX11_findSuite_81 (by decide) (fun hc => ?_) (fun hc => ?_)
  · have h := ite_t h hc
    refine wp_sub X [0, 1] rfl ?_
    exact hk153 _ _ h
  · have h := ite_f h hc
    refine wp_iconst X dX11_findSuite_84 ic_0 ?_
    refine wp_istore (L' := [(5, .int 0), (0, .ref (ad Γ 177)), (3, .int x3), (4, .int x4)]) X dX11_findSuite_85 (by decide) rfl ?_
    obtain ⟨n, h⟩ := h
    refine wp_sub X [1, 2, 3, 0] rfl ?_
    refine w_Model_findSuite_L87 X Y  ?_ n _ _ _ h
    · intro I J h
      obtain ⟨t147, et147⟩ : ∃ y : Int32, y = x4 + 1 := ⟨_, rfl⟩
      have h := h t147 et147
      refine wp_iinc (L' := [(4, .int t147), (0, .ref (ad Γ 177)), (3, .int x3)]) X dX11_findSuite_147 2 rfl (ii_1 et147) (by decide) rfl ?_
      refine wp_goto (tgt := 75) X dX11_findSuite_150 (by decide) ?_
      refine wp_sub X [1, 2, 0] rfl ?_
      exact ih _ _ _ h

set_option maxRecDepth 100000 in
set_option maxHeartbeats 4000000 in
theorem w_Model_findSuite_L64 {Γ : Ctx} {Q : Int32 → MI → MJ → Prop}  {k159 : MI → MJ → Prop} (X : Cx Γ cX11_findSuite 6 RX11 4) (Y : Rt Γ (Pi Q) (Option.some Jvm.ClassFile.FieldType.boolean))  (hk159 : ∀ (I : MI) (J : MJ), k159 I J → Wp Γ 6 159 [(0, .ref (ad Γ 177))] [] I J) : ∀ (n : Nat) (x3 : Int32) (I : MI) (J : MJ), f_Model_findSuite_L64 k159 n x3 I J → Wp Γ 6 64 [(0, .ref (ad Γ 177)), (3, .int x3)] [] I J := by
  intro n
  induction n with
  | zero => intro x3 I J h; exact absurd h (by simp [f_Model_findSuite_L64])
  | succ n ih =>
  intro x3 I J h
  unfold f_Model_findSuite_L64 at h
  refine wp_iload_n X dX11_findSuite_64 1 rfl ?_
  refine wp_aload_n X dX11_findSuite_65 0 rfl ?_
  refine gf_X11_335 X sh_177 dX11_findSuite_66 ?_
  refine wp_icmp_ge (tgt := 159) X dX11_findSuite_69 (by decide) (fun hc => ?_) (fun hc => ?_)
  · have h := ite_t h hc
    refine wp_sub X [0] rfl ?_
    exact hk159 _ _ h
  · have h := ite_f h hc
    refine wp_iconst X dX11_findSuite_72 ic_0 ?_
    refine wp_istore (L' := [(4, .int 0), (0, .ref (ad Γ 177)), (3, .int x3)]) X dX11_findSuite_73 (by decide) rfl ?_
    obtain ⟨n, h⟩ := h
    refine wp_sub X [1, 2, 0] rfl ?_
    refine w_Model_findSuite_L75 X Y  ?_ n _ _ _ h
    · intro I J h
      obtain ⟨t153, et153⟩ : ∃ y : Int32, y = x3 + 1 := ⟨_, rfl⟩
      have h := h t153 et153
      refine wp_iinc (L' := [(3, .int t153), (0, .ref (ad Γ 177))]) X dX11_findSuite_153 1 rfl (ii_1 et153) (by decide) rfl ?_
      refine wp_goto (tgt := 64) X dX11_findSuite_156 (by decide) ?_
      refine wp_sub X [1, 0] rfl ?_
      exact ih _ _ _ h

set_option maxRecDepth 100000 in
set_option maxHeartbeats 4000000 in
theorem w_Model_findSuite_b0 {Γ : Ctx} {Q : Int32 → MI → MJ → Prop} {x1 : Int32} {x2 : Int32}  (X : Cx Γ cX11_findSuite 6 RX11 4) (Y : Rt Γ (Pi Q) (Option.some Jvm.ClassFile.FieldType.boolean))   {I : MI} {J : MJ} (h : f_Model_findSuite x1 x2 I J Q) : Wp Γ 6 0 [(0, .ref (ad Γ 177)), (1, .int x1), (2, .int x2)] [] I J := by
  unfold f_Model_findSuite at h
  refine wp_aload_n X dX11_findSuite_0 0 rfl ?_
  refine wp_iload_n X dX11_findSuite_1 1 rfl ?_
  refine cv_Model_isMachine X dX11_findSuite_2 ml_X11_242  h (Nat.le_of_ble_eq_true rfl) (by decide) (fun r2 I2 J2 h => ?_)
  refine wp_if_eq (tgt := 50) X dX11_findSuite_5 (by decide) (fun hc => ?_) (fun hc => ?_)
  · have h := ite_t h hc
    refine wp_iconst X dX11_findSuite_50 ic_0 ?_
    exact wp_zret X Y dX11_findSuite_51 (by decide) ⟨_, rfl, h⟩
  · have h := ite_f h hc
    refine wp_iload_n X dX11_findSuite_8 2 rfl ?_
    refine wp_if_lt (tgt := 50) X dX11_findSuite_9 (by decide) (fun hc => ?_) (fun hc => ?_)
    · have h := ite_t h hc
      refine wp_iconst X dX11_findSuite_50 ic_0 ?_
      exact wp_zret X Y dX11_findSuite_51 (by decide) ⟨_, rfl, h⟩
    · have h := ite_f h hc
      refine wp_iload_n X dX11_findSuite_12 2 rfl ?_
      refine wp_iconst X dX11_findSuite_13 ic_2 ?_
      refine wp_icmp_gt (tgt := 50) X dX11_findSuite_14 (by decide) (fun hc => ?_) (fun hc => ?_)
      · have h := ite_t h hc
        refine wp_iconst X dX11_findSuite_50 ic_0 ?_
        exact wp_zret X Y dX11_findSuite_51 (by decide) ⟨_, rfl, h⟩
      · have h := ite_f h hc
        refine wp_aload_n X dX11_findSuite_17 0 rfl ?_
        refine wp_iload_n X dX11_findSuite_18 1 rfl ?_
        refine wp_bipush X dX11_findSuite_19 bi_18 ?_
        refine cv_Model_findLeast X dX11_findSuite_21 ml_X11_276  h (Nat.le_of_ble_eq_true rfl) (by decide) (fun r21 I21 J21 h => ?_)
        refine wp_if_eq (tgt := 50) X dX11_findSuite_24 (by decide) (fun hc => ?_) (fun hc => ?_)
        · have h := ite_t h hc
          refine wp_iconst X dX11_findSuite_50 ic_0 ?_
          exact wp_zret X Y dX11_findSuite_51 (by decide) ⟨_, rfl, h⟩
        · have h := ite_f h hc
          refine wp_aload_n X dX11_findSuite_27 0 rfl ?_
          refine gf_X11_33 (o' := 185) X sh_177 rfl dX11_findSuite_28 ?_
          refine wp_bipush X dX11_findSuite_31 bi_18 ?_
          obtain ⟨hb33, h⟩ := h
          refine wp_iald X sh_185 hb33 dX11_findSuite_33 ?_
          refine wp_bipush X dX11_findSuite_34 bi_6 ?_
          refine wp_icmp_gt (tgt := 50) X dX11_findSuite_36 (by decide) (fun hc => ?_) (fun hc => ?_)
          · have h := ite_t h hc
            refine wp_iconst X dX11_findSuite_50 ic_0 ?_
            exact wp_zret X Y dX11_findSuite_51 (by decide) ⟨_, rfl, h⟩
          · have h := ite_f h hc
            refine wp_aload_n X dX11_findSuite_39 0 rfl ?_
            refine gf_X11_36 (o' := 186) X sh_177 rfl dX11_findSuite_40 ?_
            refine wp_bipush X dX11_findSuite_43 bi_18 ?_
            obtain ⟨hb45, h⟩ := h
            refine wp_iald X sh_186 hb45 dX11_findSuite_45 ?_
            refine wp_iconst X dX11_findSuite_46 ic_3 ?_
            refine wp_icmp_le (tgt := 52) X dX11_findSuite_47 (by decide) (fun hc => ?_) (fun hc => ?_)
            · have h := ite_t h hc
              refine wp_aload_n X dX11_findSuite_52 0 rfl ?_
              refine wp_iload_n X dX11_findSuite_53 2 rfl ?_
              refine cv_Model_findParts X dX11_findSuite_54 ml_X11_347  h (Nat.le_of_ble_eq_true rfl) (by decide) (fun I54 J54 h => ?_)
              refine wp_aload_n X dX11_findSuite_57 0 rfl ?_
              refine wp_iconst X dX11_findSuite_58 ic_0 ?_
              refine pf_X11_344 X sh_177 dX11_findSuite_59 (fun I59 eI59 => ?_)
              have h := h I59 eI59
              refine wp_iconst X dX11_findSuite_62 ic_0 ?_
              refine wp_istore_n (L' := [(3, .int 0), (0, .ref (ad Γ 177)), (1, .int x1), (2, .int x2)]) X dX11_findSuite_63 rfl (by decide) rfl ?_
              obtain ⟨n, h⟩ := h
              refine wp_sub X [1, 0] rfl ?_
              refine w_Model_findSuite_L64 X Y  ?_ n _ _ _ h
              · intro I J h
                refine wp_aload_n X dX11_findSuite_159 0 rfl ?_
                refine cv_Model_order X dX11_findSuite_160 ml_X11_354  h (Nat.le_of_ble_eq_true rfl) (by decide) (fun I160 J160 h => ?_)
                refine wp_iconst X dX11_findSuite_163 ic_1 ?_
                exact wp_zret X Y dX11_findSuite_164 (by decide) ⟨_, rfl, h⟩
            · have h := ite_f h hc
              refine wp_iconst X dX11_findSuite_50 ic_0 ?_
              exact wp_zret X Y dX11_findSuite_51 (by decide) ⟨_, rfl, h⟩

theorem c_Model_findSuite {l : Launch} {g : GE} (hg : Inj g) {I : MI} {J : MJ} {Q : Int32 → MI → MJ → Prop} {x1 : Int32} {x2 : Int32}  (h : f_Model_findSuite x1 x2 I J Q) : Cm l g yX11_findSuite cX11_findSuite 6 (Option.some Jvm.ClassFile.FieldType.boolean) 4 [.ref (g.1 177), .int x1, .int x2] I J (Pi Q) := by
  refine Cm.of (As := fun ad => [.ref (ad 177), .int x1, .int x2]) hg pn_X11 (Nat.le_of_ble_eq_true rfl) ?_
  exact (fun Γ _ _ X Y => w_Model_findSuite_b0 X Y  h)
theorem cv_Model_findSuite {Γ : Ctx} {cc : ByteArray} {nL d pc index : Nat} {own : String} {L : List (Nat × Value)} {rest : List Value} {I : MI} {J : MJ} {Q : Int32 → MI → MJ → Prop} {x1 : Int32} {x2 : Int32} (X : Cx Γ cc nL own d) (hd : decode cc pc = .ok (.invokevirtual index, 3)) (hlink : Cond.methodLink own index yX11_findSuite ∈ TT)  (h : f_Model_findSuite x1 x2 I J Q) (hrest : (rest.map fun v => v.category).sum ≤ 8) (hdd : 4 + 1 ≤ d) (kk : ∀ (r : Int32) (I' : MI) (J' : MJ), Q r I' J' → Wp Γ nL (pc + 3) L (.int r :: rest) I' J') : Wp Γ nL pc L (.int x2 :: .int x1 :: .ref (ad Γ 177) :: rest) I J :=
  wp_callV (As := [.int x1, .int x2]) (rest := rest) (T := TX11) (N := 62) X hd hlink mv_X11_findSuite sh_177 (by decide) rfl (c_Model_findSuite X.inj  h) rfl rfl hrest hdd (fun v I' J' hv => by obtain ⟨r, rfl, hq⟩ := hv; exact kk r I' J' hq)
