theorem dX10_joinFault_0 : decode cX10_joinFault 0 = .ok (.aload_n 0, 1) := by decide +kernel
theorem dX10_joinFault_1 : decode cX10_joinFault 1 = .ok (.getfield 18, 3) := by decide +kernel
theorem dX10_joinFault_4 : decode cX10_joinFault 4 = .ok (.aload_n 2, 1) := by decide +kernel
theorem dX10_joinFault_5 : decode cX10_joinFault 5 = .ok (.aload_n 0, 1) := by decide +kernel
theorem dX10_joinFault_6 : decode cX10_joinFault 6 = .ok (.getfield 25, 3) := by decide +kernel
theorem dX10_joinFault_9 : decode cX10_joinFault 9 = .ok (.getfield 316, 3) := by decide +kernel
theorem dX10_joinFault_12 : decode cX10_joinFault 12 = .ok (.invokevirtual 205, 3) := by decide +kernel
theorem dX10_joinFault_15 : decode cX10_joinFault 15 = .ok (.ifCond .eq 21, 3) := by decide +kernel
theorem dX10_joinFault_18 : decode cX10_joinFault 18 = .ok (.aload_n 0, 1) := by decide +kernel
theorem dX10_joinFault_19 : decode cX10_joinFault 19 = .ok (.getfield 18, 3) := by decide +kernel
theorem dX10_joinFault_22 : decode cX10_joinFault 22 = .ok (.aload_n 3, 1) := by decide +kernel
theorem dX10_joinFault_23 : decode cX10_joinFault 23 = .ok (.aload_n 0, 1) := by decide +kernel
theorem dX10_joinFault_24 : decode cX10_joinFault 24 = .ok (.getfield 25, 3) := by decide +kernel
theorem dX10_joinFault_27 : decode cX10_joinFault 27 = .ok (.getfield 319, 3) := by decide +kernel
theorem dX10_joinFault_30 : decode cX10_joinFault 30 = .ok (.invokevirtual 205, 3) := by decide +kernel
theorem dX10_joinFault_33 : decode cX10_joinFault 33 = .ok (.ifCond .ne 5, 3) := by decide +kernel
theorem dX10_joinFault_36 : decode cX10_joinFault 36 = .ok (.iconst 5, 1) := by decide +kernel
theorem dX10_joinFault_37 : decode cX10_joinFault 37 = .ok (.ireturn, 1) := by decide +kernel
theorem dX10_joinFault_38 : decode cX10_joinFault 38 = .ok (.aload_n 0, 1) := by decide +kernel
theorem dX10_joinFault_39 : decode cX10_joinFault 39 = .ok (.getfield 25, 3) := by decide +kernel
theorem dX10_joinFault_42 : decode cX10_joinFault 42 = .ok (.getfield 316, 3) := by decide +kernel
theorem dX10_joinFault_45 : decode cX10_joinFault 45 = .ok (.invokevirtual 322, 3) := by decide +kernel
theorem dX10_joinFault_48 : decode cX10_joinFault 48 = .ok (.iconst 1, 1) := by decide +kernel
theorem dX10_joinFault_49 : decode cX10_joinFault 49 = .ok (.if_icmp .gt 17, 3) := by decide +kernel
theorem dX10_joinFault_52 : decode cX10_joinFault 52 = .ok (.aload_n 0, 1) := by decide +kernel
theorem dX10_joinFault_53 : decode cX10_joinFault 53 = .ok (.getfield 25, 3) := by decide +kernel
theorem dX10_joinFault_56 : decode cX10_joinFault 56 = .ok (.getfield 319, 3) := by decide +kernel
theorem dX10_joinFault_59 : decode cX10_joinFault 59 = .ok (.invokevirtual 322, 3) := by decide +kernel
theorem dX10_joinFault_62 : decode cX10_joinFault 62 = .ok (.iconst 1, 1) := by decide +kernel
theorem dX10_joinFault_63 : decode cX10_joinFault 63 = .ok (.if_icmp .le 5, 3) := by decide +kernel
theorem dX10_joinFault_66 : decode cX10_joinFault 66 = .ok (.iconst 4, 1) := by decide +kernel
theorem dX10_joinFault_67 : decode cX10_joinFault 67 = .ok (.ireturn, 1) := by decide +kernel
theorem dX10_joinFault_68 : decode cX10_joinFault 68 = .ok (.aload_n 0, 1) := by decide +kernel
theorem dX10_joinFault_69 : decode cX10_joinFault 69 = .ok (.getfield 25, 3) := by decide +kernel
theorem dX10_joinFault_72 : decode cX10_joinFault 72 = .ok (.iload_n 1, 1) := by decide +kernel
theorem dX10_joinFault_73 : decode cX10_joinFault 73 = .ok (.invokevirtual 325, 3) := by decide +kernel
theorem dX10_joinFault_76 : decode cX10_joinFault 76 = .ok (.iload_n 1, 1) := by decide +kernel
theorem dX10_joinFault_77 : decode cX10_joinFault 77 = .ok (.iconst 3, 1) := by decide +kernel
theorem dX10_joinFault_78 : decode cX10_joinFault 78 = .ok (.if_icmp .lt 9, 3) := by decide +kernel
theorem dX10_joinFault_81 : decode cX10_joinFault 81 = .ok (.sipush 200, 3) := by decide +kernel
theorem dX10_joinFault_84 : decode cX10_joinFault 84 = .ok (.goto 6, 3) := by decide +kernel
theorem dX10_joinFault_87 : decode cX10_joinFault 87 = .ok (.sipush 225, 3) := by decide +kernel
theorem dX10_joinFault_90 : decode cX10_joinFault 90 = .ok (.istore 4, 2) := by decide +kernel
theorem dX10_joinFault_92 : decode cX10_joinFault 92 = .ok (.aload_n 0, 1) := by decide +kernel
theorem dX10_joinFault_93 : decode cX10_joinFault 93 = .ok (.getfield 18, 3) := by decide +kernel
theorem dX10_joinFault_96 : decode cX10_joinFault 96 = .ok (.aload_n 0, 1) := by decide +kernel
theorem dX10_joinFault_97 : decode cX10_joinFault 97 = .ok (.getfield 25, 3) := by decide +kernel
theorem dX10_joinFault_100 : decode cX10_joinFault 100 = .ok (.aload_n 0, 1) := by decide +kernel
theorem dX10_joinFault_101 : decode cX10_joinFault 101 = .ok (.getfield 25, 3) := by decide +kernel
theorem dX10_joinFault_104 : decode cX10_joinFault 104 = .ok (.invokevirtual 327, 3) := by decide +kernel
theorem dX10_joinFault_107 : decode cX10_joinFault 107 = .ok (.iload 4, 2) := by decide +kernel
theorem dX10_joinFault_109 : decode cX10_joinFault 109 = .ok (.invokevirtual 330, 3) := by decide +kernel
theorem dX10_joinFault_112 : decode cX10_joinFault 112 = .ok (.ifCond .eq 15, 3) := by decide +kernel
theorem dX10_joinFault_115 : decode cX10_joinFault 115 = .ok (.aload_n 0, 1) := by decide +kernel
theorem dX10_joinFault_116 : decode cX10_joinFault 116 = .ok (.getfield 18, 3) := by decide +kernel
theorem dX10_joinFault_119 : decode cX10_joinFault 119 = .ok (.invokevirtual 334, 3) := by decide +kernel
theorem dX10_joinFault_122 : decode cX10_joinFault 122 = .ok (.bipush 14, 2) := by decide +kernel
theorem dX10_joinFault_124 : decode cX10_joinFault 124 = .ok (.if_icmp .le 5, 3) := by decide +kernel
theorem dX10_joinFault_127 : decode cX10_joinFault 127 = .ok (.iconst 5, 1) := by decide +kernel
theorem dX10_joinFault_128 : decode cX10_joinFault 128 = .ok (.ireturn, 1) := by decide +kernel
theorem dX10_joinFault_129 : decode cX10_joinFault 129 = .ok (.aload_n 0, 1) := by decide +kernel
theorem dX10_joinFault_130 : decode cX10_joinFault 130 = .ok (.getfield 18, 3) := by decide +kernel
theorem dX10_joinFault_133 : decode cX10_joinFault 133 = .ok (.aload_n 0, 1) := by decide +kernel
theorem dX10_joinFault_134 : decode cX10_joinFault 134 = .ok (.getfield 60, 3) := by decide +kernel
theorem dX10_joinFault_137 : decode cX10_joinFault 137 = .ok (.aload_n 0, 1) := by decide +kernel
theorem dX10_joinFault_138 : decode cX10_joinFault 138 = .ok (.getfield 25, 3) := by decide +kernel
theorem dX10_joinFault_141 : decode cX10_joinFault 141 = .ok (.invokevirtual 327, 3) := by decide +kernel
theorem dX10_joinFault_144 : decode cX10_joinFault 144 = .ok (.invokevirtual 337, 3) := by decide +kernel
theorem dX10_joinFault_147 : decode cX10_joinFault 147 = .ok (.iconst 0, 1) := by decide +kernel
theorem dX10_joinFault_148 : decode cX10_joinFault 148 = .ok (.ireturn, 1) := by decide +kernel
def f_School_joinFault_b90 (s0 : Int32) (Q : Int32 → MI → MJ → Prop) (I : MI) (J : MJ) : Prop :=
  f_Joining_signs I J (fun r104 I104 J104 => f_Chart_explore_J r104 s0 I104 J104 (fun r109 I109 J109 => (if r109 = 0 then Q 5 I109 J109 else f_Chart_groupNodes I109 J109 (fun r119 I119 J119 => (if r119 ≤ 14 then f_Joining_signs I119 J119 (fun r141 I141 J141 => f_Chart_writeGroups 60 r141 I141 J141 (fun I144 J144 => Q 0 I144 J144)) else Q 5 I119 J119)))))
def f_School_joinFault (x1 : Int32) (x2 : Nat) (x3 : Nat) (I : MI) (J : MJ) (Q : Int32 → MI → MJ → Prop) : Prop :=
  f_Chart_makeLeast x2 13 I J (fun r12 I12 J12 => (if r12 = 0 then Q 5 I12 J12 else f_Chart_makeLeast x3 18 I12 J12 (fun r30 I30 J30 => (if r30 = 0 then Q 5 I30 J30 else f_Machine_topAnswer 13 I30 J30 (fun r45 I45 J45 => (if 1 < r45 then Q 4 I45 J45 else f_Machine_topAnswer 18 I45 J45 (fun r59 I59 J59 => (if r59 ≤ 1 then f_Joining_begin x1 I59 J59 (fun I73 J73 => (if x1 < 3 then f_School_joinFault_b90 225 Q I73 J73 else f_School_joinFault_b90 200 Q I73 J73)) else Q 4 I59 J59))))))))
set_option maxRecDepth 100000 in
set_option maxHeartbeats 4000000 in
theorem w_School_joinFault_b90 {Γ : Ctx} {Q : Int32 → MI → MJ → Prop} {s0 : Int32}  (X : Cx Γ cX10_joinFault 5 RX10 6) (Y : Rt Γ (Pi Q) (Option.some Jvm.ClassFile.FieldType.int))   {I : MI} {J : MJ} (h : f_School_joinFault_b90 s0 Q I J) : Wp Γ 5 90 [(0, .ref (ad Γ 0))] [.int s0] I J := by
  unfold f_School_joinFault_b90 at h
  refine wp_istore (L' := [(4, .int s0), (0, .ref (ad Γ 0))]) X dX10_joinFault_90 (by decide) rfl ?_
  refine wp_aload_n X dX10_joinFault_92 1 rfl ?_
  refine gf_X10_18 (o' := 2) X sh_0 rfl dX10_joinFault_93 ?_
  refine wp_aload_n X dX10_joinFault_96 1 rfl ?_
  refine gf_X10_25 (o' := 12) X sh_0 rfl dX10_joinFault_97 ?_
  refine wp_aload_n X dX10_joinFault_100 1 rfl ?_
  refine gf_X10_25 (o' := 12) X sh_0 rfl dX10_joinFault_101 ?_
  refine cv_Joining_signs X dX10_joinFault_104 ml_X10_327  h (Nat.le_of_ble_eq_true rfl) (by decide) (fun r104 I104 J104 h => ?_)
  refine wp_iload X dX10_joinFault_107 0 rfl ?_
  refine cv_Chart_explore_J X dX10_joinFault_109 ml_X10_330  h (Nat.le_of_ble_eq_true rfl) (by decide) (fun r109 I109 J109 h => ?_)
  refine wp_if_eq (tgt := 127) X dX10_joinFault_112 (by decide) (fun hc => ?_) (fun hc => ?_)
  · have h := ite_t h hc
    refine wp_iconst X dX10_joinFault_127 ic_5 ?_
    exact wp_iret X Y dX10_joinFault_128 ⟨_, rfl, h⟩
  · have h := ite_f h hc
    refine wp_aload_n X dX10_joinFault_115 1 rfl ?_
    refine gf_X10_18 (o' := 2) X sh_0 rfl dX10_joinFault_116 ?_
    refine cv_Chart_groupNodes X dX10_joinFault_119 ml_X10_334  h (Nat.le_of_ble_eq_true rfl) (by decide) (fun r119 I119 J119 h => ?_)
    refine wp_bipush X dX10_joinFault_122 bi_14 ?_
    refine wp_icmp_le (tgt := 129) X dX10_joinFault_124 (by decide) (fun hc => ?_) (fun hc => ?_)
    · have h := ite_t h hc
      refine wp_aload_n X dX10_joinFault_129 1 rfl ?_
      refine gf_X10_18 (o' := 2) X sh_0 rfl dX10_joinFault_130 ?_
      refine wp_aload_n X dX10_joinFault_133 1 rfl ?_
      refine gf_X10_60 (o' := 60) X sh_0 rfl dX10_joinFault_134 ?_
      refine wp_aload_n X dX10_joinFault_137 1 rfl ?_
      refine gf_X10_25 (o' := 12) X sh_0 rfl dX10_joinFault_138 ?_
      refine cv_Joining_signs X dX10_joinFault_141 ml_X10_327  h (Nat.le_of_ble_eq_true rfl) (by decide) (fun r141 I141 J141 h => ?_)
      refine cv_Chart_writeGroups X dX10_joinFault_144 ml_X10_337 okM_60 h (Nat.le_of_ble_eq_true rfl) (by decide) (fun I144 J144 h => ?_)
      refine wp_iconst X dX10_joinFault_147 ic_0 ?_
      exact wp_iret X Y dX10_joinFault_148 ⟨_, rfl, h⟩
    · have h := ite_f h hc
      refine wp_iconst X dX10_joinFault_127 ic_5 ?_
      exact wp_iret X Y dX10_joinFault_128 ⟨_, rfl, h⟩

set_option maxRecDepth 100000 in
set_option maxHeartbeats 4000000 in
theorem w_School_joinFault_b0 {Γ : Ctx} {Q : Int32 → MI → MJ → Prop} {x1 : Int32} {x2 : Nat} {x3 : Nat}  (X : Cx Γ cX10_joinFault 5 RX10 6) (Y : Rt Γ (Pi Q) (Option.some Jvm.ClassFile.FieldType.int)) (hx2 : okM x2) (hx3 : okM x3)  {I : MI} {J : MJ} (h : f_School_joinFault x1 x2 x3 I J Q) : Wp Γ 5 0 [(0, .ref (ad Γ 0)), (1, .int x1), (2, .ref (ad Γ x2)), (3, .ref (ad Γ x3))] [] I J := by
  unfold f_School_joinFault at h
  refine wp_aload_n X dX10_joinFault_0 0 rfl ?_
  refine gf_X10_18 (o' := 2) X sh_0 rfl dX10_joinFault_1 ?_
  refine wp_aload_n X dX10_joinFault_4 2 rfl ?_
  refine wp_aload_n X dX10_joinFault_5 0 rfl ?_
  refine gf_X10_25 (o' := 12) X sh_0 rfl dX10_joinFault_6 ?_
  refine gf_X10_316 (o' := 13) X sh_12 rfl dX10_joinFault_9 ?_
  refine cv_Chart_makeLeast X dX10_joinFault_12 ml_X10_205 hx2 okM_13 h (Nat.le_of_ble_eq_true rfl) (by decide) (fun r12 I12 J12 h => ?_)
  refine wp_if_eq (tgt := 36) X dX10_joinFault_15 (by decide) (fun hc => ?_) (fun hc => ?_)
  · have h := ite_t h hc
    refine wp_iconst X dX10_joinFault_36 ic_5 ?_
    exact wp_iret X Y dX10_joinFault_37 ⟨_, rfl, h⟩
  · have h := ite_f h hc
    refine wp_aload_n X dX10_joinFault_18 0 rfl ?_
    refine gf_X10_18 (o' := 2) X sh_0 rfl dX10_joinFault_19 ?_
    refine wp_aload_n X dX10_joinFault_22 3 rfl ?_
    refine wp_aload_n X dX10_joinFault_23 0 rfl ?_
    refine gf_X10_25 (o' := 12) X sh_0 rfl dX10_joinFault_24 ?_
    refine gf_X10_319 (o' := 18) X sh_12 rfl dX10_joinFault_27 ?_
    refine cv_Chart_makeLeast X dX10_joinFault_30 ml_X10_205 hx3 okM_18 h (Nat.le_of_ble_eq_true rfl) (by decide) (fun r30 I30 J30 h => ?_)
    refine wp_if_ne (tgt := 38) X dX10_joinFault_33 (by decide) (fun hc => ?_) (fun hc => ?_)
    · have h := ite_f h hc
      refine wp_aload_n X dX10_joinFault_38 0 rfl ?_
      refine gf_X10_25 (o' := 12) X sh_0 rfl dX10_joinFault_39 ?_
      refine gf_X10_316 (o' := 13) X sh_12 rfl dX10_joinFault_42 ?_
      refine cv_Machine_topAnswer X dX10_joinFault_45 ml_X10_322 okM_13 h (Nat.le_of_ble_eq_true rfl) (by decide) (fun r45 I45 J45 h => ?_)
      refine wp_iconst X dX10_joinFault_48 ic_1 ?_
      refine wp_icmp_gt (tgt := 66) X dX10_joinFault_49 (by decide) (fun hc => ?_) (fun hc => ?_)
      · have h := ite_t h hc
        refine wp_iconst X dX10_joinFault_66 ic_4 ?_
        exact wp_iret X Y dX10_joinFault_67 ⟨_, rfl, h⟩
      · have h := ite_f h hc
        refine wp_aload_n X dX10_joinFault_52 0 rfl ?_
        refine gf_X10_25 (o' := 12) X sh_0 rfl dX10_joinFault_53 ?_
        refine gf_X10_319 (o' := 18) X sh_12 rfl dX10_joinFault_56 ?_
        refine cv_Machine_topAnswer X dX10_joinFault_59 ml_X10_322 okM_18 h (Nat.le_of_ble_eq_true rfl) (by decide) (fun r59 I59 J59 h => ?_)
        refine wp_iconst X dX10_joinFault_62 ic_1 ?_
        refine wp_icmp_le (tgt := 68) X dX10_joinFault_63 (by decide) (fun hc => ?_) (fun hc => ?_)
        · have h := ite_t h hc
          refine wp_aload_n X dX10_joinFault_68 0 rfl ?_
          refine gf_X10_25 (o' := 12) X sh_0 rfl dX10_joinFault_69 ?_
          refine wp_iload_n X dX10_joinFault_72 1 rfl ?_
          refine cv_Joining_begin X dX10_joinFault_73 ml_X10_325  h (Nat.le_of_ble_eq_true rfl) (by decide) (fun I73 J73 h => ?_)
          refine wp_iload_n X dX10_joinFault_76 1 rfl ?_
          refine wp_iconst X dX10_joinFault_77 ic_3 ?_
          refine wp_icmp_lt (tgt := 87) X dX10_joinFault_78 (by decide) (fun hc => ?_) (fun hc => ?_)
          · have h := ite_t h hc
            refine wp_sipush X dX10_joinFault_87 si_225 ?_
            refine wp_sub X [0] rfl ?_
            exact w_School_joinFault_b90 X Y  h
          · have h := ite_f h hc
            refine wp_sipush X dX10_joinFault_81 si_200 ?_
            refine wp_goto (tgt := 90) X dX10_joinFault_84 (by decide) ?_
            refine wp_sub X [0] rfl ?_
            exact w_School_joinFault_b90 X Y  h
        · have h := ite_f h hc
          refine wp_iconst X dX10_joinFault_66 ic_4 ?_
          exact wp_iret X Y dX10_joinFault_67 ⟨_, rfl, h⟩
    · have h := ite_t h hc
      refine wp_iconst X dX10_joinFault_36 ic_5 ?_
      exact wp_iret X Y dX10_joinFault_37 ⟨_, rfl, h⟩

theorem c_School_joinFault {l : Launch} {g : GE} (hg : Inj g) {I : MI} {J : MJ} {Q : Int32 → MI → MJ → Prop} {x1 : Int32} {x2 : Nat} {x3 : Nat} (hx2 : okM x2) (hx3 : okM x3) (h : f_School_joinFault x1 x2 x3 I J Q) : Cm l g yX10_joinFault cX10_joinFault 5 (Option.some Jvm.ClassFile.FieldType.int) 6 [.ref (g.1 0), .int x1, .ref (g.1 x2), .ref (g.1 x3)] I J (Pi Q) := by
  refine Cm.of (As := fun ad => [.ref (ad 0), .int x1, .ref (ad x2), .ref (ad x3)]) hg pn_X10 (Nat.le_of_ble_eq_true rfl) ?_
  exact (fun Γ _ _ X Y => w_School_joinFault_b0 X Y hx2 hx3 h)
theorem cv_School_joinFault {Γ : Ctx} {cc : ByteArray} {nL d pc index : Nat} {own : String} {L : List (Nat × Value)} {rest : List Value} {I : MI} {J : MJ} {Q : Int32 → MI → MJ → Prop} {x1 : Int32} {x2 : Nat} {x3 : Nat} (X : Cx Γ cc nL own d) (hd : decode cc pc = .ok (.invokevirtual index, 3)) (hlink : Cond.methodLink own index yX10_joinFault ∈ TT) (hx2 : okM x2) (hx3 : okM x3) (h : f_School_joinFault x1 x2 x3 I J Q) (hrest : (rest.map fun v => v.category).sum ≤ 8) (hdd : 6 + 1 ≤ d) (kk : ∀ (r : Int32) (I' : MI) (J' : MJ), Q r I' J' → Wp Γ nL (pc + 3) L (.int r :: rest) I' J') : Wp Γ nL pc L (.ref (ad Γ x3) :: .ref (ad Γ x2) :: .int x1 :: .ref (ad Γ 0) :: rest) I J :=
  wp_callV (As := [.int x1, .ref (ad Γ x2), .ref (ad Γ x3)]) (rest := rest) (T := TX10) (N := 9) X hd hlink mv_X10_joinFault sh_0 (by decide) rfl (c_School_joinFault X.inj hx2 hx3 h) rfl rfl hrest hdd (fun v I' J' hv => by obtain ⟨r, rfl, hq⟩ := hv; exact kk r I' J' hq)
theorem dX10_join_0 : decode cX10_join 0 = .ok (.iload_n 1, 1) := by decide +kernel
theorem dX10_join_1 : decode cX10_join 1 = .ok (.ifCond .eq 13, 3) := by decide +kernel
theorem dX10_join_4 : decode cX10_join 4 = .ok (.iload_n 1, 1) := by decide +kernel
theorem dX10_join_5 : decode cX10_join 5 = .ok (.iconst 1, 1) := by decide +kernel
theorem dX10_join_6 : decode cX10_join 6 = .ok (.if_icmp .eq 8, 3) := by decide +kernel
theorem dX10_join_9 : decode cX10_join 9 = .ok (.iload_n 1, 1) := by decide +kernel
theorem dX10_join_10 : decode cX10_join 10 = .ok (.iconst 3, 1) := by decide +kernel
theorem dX10_join_11 : decode cX10_join 11 = .ok (.if_icmp .ne 7, 3) := by decide +kernel
theorem dX10_join_14 : decode cX10_join 14 = .ok (.iconst 1, 1) := by decide +kernel
theorem dX10_join_15 : decode cX10_join 15 = .ok (.goto 4, 3) := by decide +kernel
theorem dX10_join_18 : decode cX10_join 18 = .ok (.iconst 0, 1) := by decide +kernel
theorem dX10_join_19 : decode cX10_join 19 = .ok (.istore 5, 2) := by decide +kernel
theorem dX10_join_21 : decode cX10_join 21 = .ok (.iload_n 1, 1) := by decide +kernel
theorem dX10_join_22 : decode cX10_join 22 = .ok (.ifCond .lt 8, 3) := by decide +kernel
theorem dX10_join_25 : decode cX10_join 25 = .ok (.iload_n 1, 1) := by decide +kernel
theorem dX10_join_26 : decode cX10_join 26 = .ok (.iconst 5, 1) := by decide +kernel
theorem dX10_join_27 : decode cX10_join 27 = .ok (.if_icmp .le 7, 3) := by decide +kernel
theorem dX10_join_30 : decode cX10_join 30 = .ok (.iconst 2, 1) := by decide +kernel
theorem dX10_join_31 : decode cX10_join 31 = .ok (.goto 8, 3) := by decide +kernel
theorem dX10_join_34 : decode cX10_join 34 = .ok (.aload_n 0, 1) := by decide +kernel
theorem dX10_join_35 : decode cX10_join 35 = .ok (.iload_n 2, 1) := by decide +kernel
theorem dX10_join_36 : decode cX10_join 36 = .ok (.invokevirtual 100, 3) := by decide +kernel
theorem dX10_join_39 : decode cX10_join 39 = .ok (.istore 6, 2) := by decide +kernel
theorem dX10_join_41 : decode cX10_join 41 = .ok (.iload 6, 2) := by decide +kernel
theorem dX10_join_43 : decode cX10_join 43 = .ok (.ifCond .ne 15, 3) := by decide +kernel
theorem dX10_join_46 : decode cX10_join 46 = .ok (.iload 5, 2) := by decide +kernel
theorem dX10_join_48 : decode cX10_join 48 = .ok (.ifCond .eq 10, 3) := by decide +kernel
theorem dX10_join_51 : decode cX10_join 51 = .ok (.aload_n 0, 1) := by decide +kernel
theorem dX10_join_52 : decode cX10_join 52 = .ok (.iload_n 3, 1) := by decide +kernel
theorem dX10_join_53 : decode cX10_join 53 = .ok (.invokevirtual 100, 3) := by decide +kernel
theorem dX10_join_56 : decode cX10_join 56 = .ok (.istore 6, 2) := by decide +kernel
theorem dX10_join_58 : decode cX10_join 58 = .ok (.iload 6, 2) := by decide +kernel
theorem dX10_join_60 : decode cX10_join 60 = .ok (.ifCond .ne 10, 3) := by decide +kernel
theorem dX10_join_63 : decode cX10_join 63 = .ok (.iload 4, 2) := by decide +kernel
theorem dX10_join_65 : decode cX10_join 65 = .ok (.invokestatic 69, 3) := by decide +kernel
theorem dX10_join_68 : decode cX10_join 68 = .ok (.istore 6, 2) := by decide +kernel
theorem dX10_join_70 : decode cX10_join 70 = .ok (.iload 6, 2) := by decide +kernel
theorem dX10_join_72 : decode cX10_join 72 = .ok (.ifCond .ne 45, 3) := by decide +kernel
theorem dX10_join_75 : decode cX10_join 75 = .ok (.aload_n 0, 1) := by decide +kernel
theorem dX10_join_76 : decode cX10_join 76 = .ok (.iload_n 1, 1) := by decide +kernel
theorem dX10_join_77 : decode cX10_join 77 = .ok (.aload_n 0, 1) := by decide +kernel
theorem dX10_join_78 : decode cX10_join 78 = .ok (.getfield 11, 3) := by decide +kernel
theorem dX10_join_81 : decode cX10_join 81 = .ok (.iload_n 2, 1) := by decide +kernel
theorem dX10_join_82 : decode cX10_join 82 = .ok (.aaload, 1) := by decide +kernel
theorem dX10_join_83 : decode cX10_join 83 = .ok (.getfield 76, 3) := by decide +kernel
theorem dX10_join_86 : decode cX10_join 86 = .ok (.iload 5, 2) := by decide +kernel
theorem dX10_join_88 : decode cX10_join 88 = .ok (.ifCond .eq 15, 3) := by decide +kernel
theorem dX10_join_91 : decode cX10_join 91 = .ok (.aload_n 0, 1) := by decide +kernel
theorem dX10_join_92 : decode cX10_join 92 = .ok (.getfield 11, 3) := by decide +kernel
theorem dX10_join_95 : decode cX10_join 95 = .ok (.iload_n 3, 1) := by decide +kernel
theorem dX10_join_96 : decode cX10_join 96 = .ok (.aaload, 1) := by decide +kernel
theorem dX10_join_97 : decode cX10_join 97 = .ok (.getfield 76, 3) := by decide +kernel
theorem dX10_join_100 : decode cX10_join 100 = .ok (.goto 12, 3) := by decide +kernel
theorem dX10_join_103 : decode cX10_join 103 = .ok (.aload_n 0, 1) := by decide +kernel
theorem dX10_join_104 : decode cX10_join 104 = .ok (.getfield 11, 3) := by decide +kernel
theorem dX10_join_107 : decode cX10_join 107 = .ok (.iload_n 2, 1) := by decide +kernel
theorem dX10_join_108 : decode cX10_join 108 = .ok (.aaload, 1) := by decide +kernel
theorem dX10_join_109 : decode cX10_join 109 = .ok (.getfield 76, 3) := by decide +kernel
theorem dX10_join_112 : decode cX10_join 112 = .ok (.invokevirtual 213, 3) := by decide +kernel
theorem dX10_join_115 : decode cX10_join 115 = .ok (.istore 6, 2) := by decide +kernel
theorem dX10_join_117 : decode cX10_join 117 = .ok (.iload 6, 2) := by decide +kernel
theorem dX10_join_119 : decode cX10_join 119 = .ok (.ifCond .eq 10, 3) := by decide +kernel
theorem dX10_join_122 : decode cX10_join 122 = .ok (.aload_n 0, 1) := by decide +kernel
theorem dX10_join_123 : decode cX10_join 123 = .ok (.iload 6, 2) := by decide +kernel
theorem dX10_join_125 : decode cX10_join 125 = .ok (.invokevirtual 73, 3) := by decide +kernel
theorem dX10_join_128 : decode cX10_join 128 = .ok (.ireturn, 1) := by decide +kernel
theorem dX10_join_129 : decode cX10_join 129 = .ok (.aload_n 0, 1) := by decide +kernel
theorem dX10_join_130 : decode cX10_join 130 = .ok (.aload_n 0, 1) := by decide +kernel
theorem dX10_join_131 : decode cX10_join 131 = .ok (.getfield 60, 3) := by decide +kernel
theorem dX10_join_134 : decode cX10_join 134 = .ok (.iload 4, 2) := by decide +kernel
theorem dX10_join_136 : decode cX10_join 136 = .ok (.invokevirtual 209, 3) := by decide +kernel
theorem dX10_join_139 : decode cX10_join 139 = .ok (.ireturn, 1) := by decide +kernel
def f_School_join_b117 (x4 : Int32) (x6 : Int32) (Q : Int32 → MI → MJ → Prop) (I : MI) (J : MJ) : Prop :=
  (if x6 = 0 then f_School_layMachine 60 x4 I J (fun r136 I136 J136 => Q r136 I136 J136) else f_School_refuse x6 I J (fun r125 I125 J125 => Q r125 I125 J125))
def f_School_join_b112 (x4 : Int32) (s1 : Int32) (s2 : Nat) (s3 : Nat) (Q : Int32 → MI → MJ → Prop) (I : MI) (J : MJ) : Prop :=
  f_School_joinFault s1 s2 s3 I J (fun r112 I112 J112 => f_School_join_b117 x4 r112 Q I112 J112)
def f_School_join_b70 (x1 : Int32) (x2 : Int32) (x3 : Int32) (x4 : Int32) (x5 : Int32) (x6 : Int32) (Q : Int32 → MI → MJ → Prop) (I : MI) (J : MJ) : Prop :=
  (if x6 = 0 then vp_in x2 16 ∧ (if x5 = 0 then vp_in x2 16 ∧ f_School_join_b112 x4 x1 (1 + 64 + 7 * x2.toNatClampNeg + 1) (1 + 64 + 7 * x2.toNatClampNeg + 1) Q I J else vp_in x3 16 ∧ f_School_join_b112 x4 x1 (1 + 64 + 7 * x2.toNatClampNeg + 1) (1 + 64 + 7 * x3.toNatClampNeg + 1) Q I J) else f_School_join_b117 x4 x6 Q I J)
def f_School_join_b58 (x1 : Int32) (x2 : Int32) (x3 : Int32) (x4 : Int32) (x5 : Int32) (x6 : Int32) (Q : Int32 → MI → MJ → Prop) (I : MI) (J : MJ) : Prop :=
  (if x6 = 0 then f_School_placeFault x4 I J (fun r65 I65 J65 => f_School_join_b70 x1 x2 x3 x4 x5 r65 Q I65 J65) else f_School_join_b70 x1 x2 x3 x4 x5 x6 Q I J)
def f_School_join_b39 (x1 : Int32) (x2 : Int32) (x3 : Int32) (x4 : Int32) (x5 : Int32) (s0 : Int32) (Q : Int32 → MI → MJ → Prop) (I : MI) (J : MJ) : Prop :=
  (if s0 = 0 then (if x5 = 0 then f_School_join_b58 x1 x2 x3 x4 x5 s0 Q I J else f_School_machineFault x3 I J (fun r53 I53 J53 => f_School_join_b58 x1 x2 x3 x4 x5 r53 Q I53 J53)) else f_School_join_b58 x1 x2 x3 x4 x5 s0 Q I J)
def f_School_join_b30 (x1 : Int32) (x2 : Int32) (x3 : Int32) (x4 : Int32) (x5 : Int32) (Q : Int32 → MI → MJ → Prop) (I : MI) (J : MJ) : Prop :=
  f_School_join_b39 x1 x2 x3 x4 x5 2 Q I J
def f_School_join_b19 (x1 : Int32) (x2 : Int32) (x3 : Int32) (x4 : Int32) (s0 : Int32) (Q : Int32 → MI → MJ → Prop) (I : MI) (J : MJ) : Prop :=
  (if x1 < 0 then f_School_join_b30 x1 x2 x3 x4 s0 Q I J else (if x1 ≤ 5 then f_School_machineFault x2 I J (fun r36 I36 J36 => f_School_join_b39 x1 x2 x3 x4 s0 r36 Q I36 J36) else f_School_join_b30 x1 x2 x3 x4 s0 Q I J))
def f_School_join_b14 (x1 : Int32) (x2 : Int32) (x3 : Int32) (x4 : Int32) (Q : Int32 → MI → MJ → Prop) (I : MI) (J : MJ) : Prop :=
  f_School_join_b19 x1 x2 x3 x4 1 Q I J
def f_School_join (x1 : Int32) (x2 : Int32) (x3 : Int32) (x4 : Int32) (I : MI) (J : MJ) (Q : Int32 → MI → MJ → Prop) : Prop :=
  (if x1 = 0 then f_School_join_b14 x1 x2 x3 x4 Q I J else (if x1 = 1 then f_School_join_b14 x1 x2 x3 x4 Q I J else (if x1 = 3 then f_School_join_b14 x1 x2 x3 x4 Q I J else f_School_join_b19 x1 x2 x3 x4 0 Q I J)))
set_option maxRecDepth 100000 in
set_option maxHeartbeats 4000000 in
theorem w_School_join_b117 {Γ : Ctx} {Q : Int32 → MI → MJ → Prop} {x4 : Int32} {x6 : Int32}  (X : Cx Γ cX10_join 7 RX10 7) (Y : Rt Γ (Pi Q) (Option.some Jvm.ClassFile.FieldType.int))   {I : MI} {J : MJ} (h : f_School_join_b117 x4 x6 Q I J) : Wp Γ 7 117 [(0, .ref (ad Γ 0)), (4, .int x4), (6, .int x6)] [] I J := by
  unfold f_School_join_b117 at h
  refine wp_iload X dX10_join_117 2 rfl ?_
  refine wp_if_eq (tgt := 129) X dX10_join_119 (by decide) (fun hc => ?_) (fun hc => ?_)
  · have h := ite_t h hc
    refine wp_aload_n X dX10_join_129 0 rfl ?_
    refine wp_aload_n X dX10_join_130 0 rfl ?_
    refine gf_X10_60 (o' := 60) X sh_0 rfl dX10_join_131 ?_
    refine wp_iload X dX10_join_134 1 rfl ?_
    refine cv_School_layMachine X dX10_join_136 ml_X10_209 okM_60 h (Nat.le_of_ble_eq_true rfl) (by decide) (fun r136 I136 J136 h => ?_)
    exact wp_iret X Y dX10_join_139 ⟨_, rfl, h⟩
  · have h := ite_f h hc
    refine wp_aload_n X dX10_join_122 0 rfl ?_
    refine wp_iload X dX10_join_123 2 rfl ?_
    refine cv_School_refuse X dX10_join_125 ml_X10_73  h (Nat.le_of_ble_eq_true rfl) (by decide) (fun r125 I125 J125 h => ?_)
    exact wp_iret X Y dX10_join_128 ⟨_, rfl, h⟩

set_option maxRecDepth 100000 in
set_option maxHeartbeats 4000000 in
theorem w_School_join_b112 {Γ : Ctx} {Q : Int32 → MI → MJ → Prop} {x4 : Int32} {s1 : Int32} {s2 : Nat} {s3 : Nat}  (X : Cx Γ cX10_join 7 RX10 7) (Y : Rt Γ (Pi Q) (Option.some Jvm.ClassFile.FieldType.int)) (hs2 : okM s2) (hs3 : okM s3)  {I : MI} {J : MJ} (h : f_School_join_b112 x4 s1 s2 s3 Q I J) : Wp Γ 7 112 [(0, .ref (ad Γ 0)), (4, .int x4)] [.ref (ad Γ s3), .ref (ad Γ s2), .int s1, .ref (ad Γ 0)] I J := by
  unfold f_School_join_b112 at h
  refine cv_School_joinFault X dX10_join_112 ml_X10_213 hs2 hs3 h (Nat.le_of_ble_eq_true rfl) (by decide) (fun r112 I112 J112 h => ?_)
  refine wp_istore (L' := [(6, .int r112), (0, .ref (ad Γ 0)), (4, .int x4)]) X dX10_join_115 (by decide) rfl ?_
  refine wp_sub X [1, 2, 0] rfl ?_
  exact w_School_join_b117 X Y  h

set_option maxRecDepth 100000 in
set_option maxHeartbeats 4000000 in
theorem w_School_join_b70 {Γ : Ctx} {Q : Int32 → MI → MJ → Prop} {x1 : Int32} {x2 : Int32} {x3 : Int32} {x4 : Int32} {x5 : Int32} {x6 : Int32}  (X : Cx Γ cX10_join 7 RX10 7) (Y : Rt Γ (Pi Q) (Option.some Jvm.ClassFile.FieldType.int))   {I : MI} {J : MJ} (h : f_School_join_b70 x1 x2 x3 x4 x5 x6 Q I J) : Wp Γ 7 70 [(0, .ref (ad Γ 0)), (1, .int x1), (2, .int x2), (3, .int x3), (4, .int x4), (5, .int x5), (6, .int x6)] [] I J := by
  unfold f_School_join_b70 at h
  refine wp_iload X dX10_join_70 6 rfl ?_
  refine wp_if_ne (tgt := 117) X dX10_join_72 (by decide) (fun hc => ?_) (fun hc => ?_)
  · have h := ite_f h hc
    refine wp_sub X [0, 4, 6] rfl ?_
    exact w_School_join_b117 X Y  h
  · have h := ite_t h hc
    refine wp_aload_n X dX10_join_75 0 rfl ?_
    refine wp_iload_n X dX10_join_76 1 rfl ?_
    refine wp_aload_n X dX10_join_77 0 rfl ?_
    refine gf_X10_11 (o' := 1) X sh_0 rfl dX10_join_78 ?_
    refine wp_iload_n X dX10_join_81 2 rfl ?_
    obtain ⟨hb82, h⟩ := h
    refine wp_aald X sh_1 hb82 dX10_join_82 ?_
    refine gf_X10_76 (o' := 1 + 64 + 7 * x2.toNatClampNeg + 1) X ((okP_at hb82).1) rfl dX10_join_83 ?_
    refine wp_iload X dX10_join_86 5 rfl ?_
    refine wp_if_eq (tgt := 103) X dX10_join_88 (by decide) (fun hc => ?_) (fun hc => ?_)
    · have h := ite_t h hc
      refine wp_aload_n X dX10_join_103 0 rfl ?_
      refine gf_X10_11 (o' := 1) X sh_0 rfl dX10_join_104 ?_
      refine wp_iload_n X dX10_join_107 2 rfl ?_
      obtain ⟨hb108, h⟩ := h
      refine wp_aald X sh_1 hb108 dX10_join_108 ?_
      refine gf_X10_76 (o' := 1 + 64 + 7 * x2.toNatClampNeg + 1) X ((okP_at hb108).1) rfl dX10_join_109 ?_
      refine wp_sub X [0, 4] rfl ?_
      exact w_School_join_b112 X Y ((okP_at hb82).2.1) ((okP_at hb108).2.1) h
    · have h := ite_f h hc
      refine wp_aload_n X dX10_join_91 0 rfl ?_
      refine gf_X10_11 (o' := 1) X sh_0 rfl dX10_join_92 ?_
      refine wp_iload_n X dX10_join_95 3 rfl ?_
      obtain ⟨hb96, h⟩ := h
      refine wp_aald X sh_1 hb96 dX10_join_96 ?_
      refine gf_X10_76 (o' := 1 + 64 + 7 * x3.toNatClampNeg + 1) X ((okP_at hb96).1) rfl dX10_join_97 ?_
      refine wp_goto (tgt := 112) X dX10_join_100 (by decide) ?_
      refine wp_sub X [0, 4] rfl ?_
      exact w_School_join_b112 X Y ((okP_at hb82).2.1) ((okP_at hb96).2.1) h

set_option maxRecDepth 100000 in
set_option maxHeartbeats 4000000 in
theorem w_School_join_b58 {Γ : Ctx} {Q : Int32 → MI → MJ → Prop} {x1 : Int32} {x2 : Int32} {x3 : Int32} {x4 : Int32} {x5 : Int32} {x6 : Int32}  (X : Cx Γ cX10_join 7 RX10 7) (Y : Rt Γ (Pi Q) (Option.some Jvm.ClassFile.FieldType.int))   {I : MI} {J : MJ} (h : f_School_join_b58 x1 x2 x3 x4 x5 x6 Q I J) : Wp Γ 7 58 [(0, .ref (ad Γ 0)), (1, .int x1), (2, .int x2), (3, .int x3), (4, .int x4), (5, .int x5), (6, .int x6)] [] I J := by
  unfold f_School_join_b58 at h
  refine wp_iload X dX10_join_58 6 rfl ?_
  refine wp_if_ne (tgt := 70) X dX10_join_60 (by decide) (fun hc => ?_) (fun hc => ?_)
  · have h := ite_f h hc
    exact w_School_join_b70 X Y  h
  · have h := ite_t h hc
    refine wp_iload X dX10_join_63 4 rfl ?_
    refine cs_School_placeFault X dX10_join_65 ml_X10_69  h (Nat.le_of_ble_eq_true rfl) (by decide) (fun r65 I65 J65 h => ?_)
    refine wp_istore (L' := [(6, .int r65), (0, .ref (ad Γ 0)), (1, .int x1), (2, .int x2), (3, .int x3), (4, .int x4), (5, .int x5)]) X dX10_join_68 (by decide) rfl ?_
    refine wp_sub X [1, 2, 3, 4, 5, 6, 0] rfl ?_
    exact w_School_join_b70 X Y  h

set_option maxRecDepth 100000 in
set_option maxHeartbeats 4000000 in
theorem w_School_join_b39 {Γ : Ctx} {Q : Int32 → MI → MJ → Prop} {x1 : Int32} {x2 : Int32} {x3 : Int32} {x4 : Int32} {x5 : Int32} {s0 : Int32}  (X : Cx Γ cX10_join 7 RX10 7) (Y : Rt Γ (Pi Q) (Option.some Jvm.ClassFile.FieldType.int))   {I : MI} {J : MJ} (h : f_School_join_b39 x1 x2 x3 x4 x5 s0 Q I J) : Wp Γ 7 39 [(0, .ref (ad Γ 0)), (1, .int x1), (2, .int x2), (3, .int x3), (4, .int x4), (5, .int x5)] [.int s0] I J := by
  unfold f_School_join_b39 at h
  refine wp_istore (L' := [(6, .int s0), (0, .ref (ad Γ 0)), (1, .int x1), (2, .int x2), (3, .int x3), (4, .int x4), (5, .int x5)]) X dX10_join_39 (by decide) rfl ?_
  refine wp_iload X dX10_join_41 0 rfl ?_
  refine wp_if_ne (tgt := 58) X dX10_join_43 (by decide) (fun hc => ?_) (fun hc => ?_)
  · have h := ite_f h hc
    refine wp_sub X [1, 2, 3, 4, 5, 6, 0] rfl ?_
    exact w_School_join_b58 X Y  h
  · have h := ite_t h hc
    refine wp_iload X dX10_join_46 6 rfl ?_
    refine wp_if_eq (tgt := 58) X dX10_join_48 (by decide) (fun hc => ?_) (fun hc => ?_)
    · have h := ite_t h hc
      refine wp_sub X [1, 2, 3, 4, 5, 6, 0] rfl ?_
      exact w_School_join_b58 X Y  h
    · have h := ite_f h hc
      refine wp_aload_n X dX10_join_51 1 rfl ?_
      refine wp_iload_n X dX10_join_52 4 rfl ?_
      refine cv_School_machineFault X dX10_join_53 ml_X10_100  h (Nat.le_of_ble_eq_true rfl) (by decide) (fun r53 I53 J53 h => ?_)
      refine wp_istore (L' := [(6, .int r53), (0, .ref (ad Γ 0)), (1, .int x1), (2, .int x2), (3, .int x3), (4, .int x4), (5, .int x5)]) X dX10_join_56 (by decide) rfl ?_
      refine wp_sub X [1, 2, 3, 4, 5, 6, 0] rfl ?_
      exact w_School_join_b58 X Y  h

set_option maxRecDepth 100000 in
set_option maxHeartbeats 4000000 in
theorem w_School_join_b30 {Γ : Ctx} {Q : Int32 → MI → MJ → Prop} {x1 : Int32} {x2 : Int32} {x3 : Int32} {x4 : Int32} {x5 : Int32}  (X : Cx Γ cX10_join 7 RX10 7) (Y : Rt Γ (Pi Q) (Option.some Jvm.ClassFile.FieldType.int))   {I : MI} {J : MJ} (h : f_School_join_b30 x1 x2 x3 x4 x5 Q I J) : Wp Γ 7 30 [(0, .ref (ad Γ 0)), (1, .int x1), (2, .int x2), (3, .int x3), (4, .int x4), (5, .int x5)] [] I J := by
  unfold f_School_join_b30 at h
  refine wp_iconst X dX10_join_30 ic_2 ?_
  refine wp_goto (tgt := 39) X dX10_join_31 (by decide) ?_
  exact w_School_join_b39 X Y  h

set_option maxRecDepth 100000 in
set_option maxHeartbeats 4000000 in
theorem w_School_join_b19 {Γ : Ctx} {Q : Int32 → MI → MJ → Prop} {x1 : Int32} {x2 : Int32} {x3 : Int32} {x4 : Int32} {s0 : Int32}  (X : Cx Γ cX10_join 7 RX10 7) (Y : Rt Γ (Pi Q) (Option.some Jvm.ClassFile.FieldType.int))   {I : MI} {J : MJ} (h : f_School_join_b19 x1 x2 x3 x4 s0 Q I J) : Wp Γ 7 19 [(0, .ref (ad Γ 0)), (1, .int x1), (2, .int x2), (3, .int x3), (4, .int x4)] [.int s0] I J := by
  unfold f_School_join_b19 at h
  refine wp_istore (L' := [(5, .int s0), (0, .ref (ad Γ 0)), (1, .int x1), (2, .int x2), (3, .int x3), (4, .int x4)]) X dX10_join_19 (by decide) rfl ?_
  refine wp_iload_n X dX10_join_21 2 rfl ?_
  refine wp_if_lt (tgt := 30) X dX10_join_22 (by decide) (fun hc => ?_) (fun hc => ?_)
  · have h := ite_t h hc
    refine wp_sub X [1, 2, 3, 4, 5, 0] rfl ?_
    exact w_School_join_b30 X Y  h
  · have h := ite_f h hc
    refine wp_iload_n X dX10_join_25 2 rfl ?_
    refine wp_iconst X dX10_join_26 ic_5 ?_
    refine wp_icmp_le (tgt := 34) X dX10_join_27 (by decide) (fun hc => ?_) (fun hc => ?_)
    · have h := ite_t h hc
      refine wp_aload_n X dX10_join_34 1 rfl ?_
      refine wp_iload_n X dX10_join_35 3 rfl ?_
      refine cv_School_machineFault X dX10_join_36 ml_X10_100  h (Nat.le_of_ble_eq_true rfl) (by decide) (fun r36 I36 J36 h => ?_)
      refine wp_sub X [1, 2, 3, 4, 5, 0] rfl ?_
      exact w_School_join_b39 X Y  h
    · have h := ite_f h hc
      refine wp_sub X [1, 2, 3, 4, 5, 0] rfl ?_
      exact w_School_join_b30 X Y  h

set_option maxRecDepth 100000 in
set_option maxHeartbeats 4000000 in
theorem w_School_join_b14 {Γ : Ctx} {Q : Int32 → MI → MJ → Prop} {x1 : Int32} {x2 : Int32} {x3 : Int32} {x4 : Int32}  (X : Cx Γ cX10_join 7 RX10 7) (Y : Rt Γ (Pi Q) (Option.some Jvm.ClassFile.FieldType.int))   {I : MI} {J : MJ} (h : f_School_join_b14 x1 x2 x3 x4 Q I J) : Wp Γ 7 14 [(0, .ref (ad Γ 0)), (1, .int x1), (2, .int x2), (3, .int x3), (4, .int x4)] [] I J := by
  unfold f_School_join_b14 at h
  refine wp_iconst X dX10_join_14 ic_1 ?_
  refine wp_goto (tgt := 19) X dX10_join_15 (by decide) ?_
  exact w_School_join_b19 X Y  h

set_option maxRecDepth 100000 in
set_option maxHeartbeats 4000000 in
theorem w_School_join_b0 {Γ : Ctx} {Q : Int32 → MI → MJ → Prop} {x1 : Int32} {x2 : Int32} {x3 : Int32} {x4 : Int32}  (X : Cx Γ cX10_join 7 RX10 7) (Y : Rt Γ (Pi Q) (Option.some Jvm.ClassFile.FieldType.int))   {I : MI} {J : MJ} (h : f_School_join x1 x2 x3 x4 I J Q) : Wp Γ 7 0 [(0, .ref (ad Γ 0)), (1, .int x1), (2, .int x2), (3, .int x3), (4, .int x4)] [] I J := by
  unfold f_School_join at h
  refine wp_iload_n X dX10_join_0 1 rfl ?_
  refine wp_if_eq (tgt := 14) X dX10_join_1 (by decide) (fun hc => ?_) (fun hc => ?_)
  · have h := ite_t h hc
    exact w_School_join_b14 X Y  h
  · have h := ite_f h hc
    refine wp_iload_n X dX10_join_4 1 rfl ?_
    refine wp_iconst X dX10_join_5 ic_1 ?_
    refine wp_icmp_eq (tgt := 14) X dX10_join_6 (by decide) (fun hc => ?_) (fun hc => ?_)
    · have h := ite_t h hc
      exact w_School_join_b14 X Y  h
    · have h := ite_f h hc
      refine wp_iload_n X dX10_join_9 1 rfl ?_
      refine wp_iconst X dX10_join_10 ic_3 ?_
      refine wp_icmp_ne (tgt := 18) X dX10_join_11 (by decide) (fun hc => ?_) (fun hc => ?_)
      · have h := ite_f h hc
        refine wp_iconst X dX10_join_18 ic_0 ?_
        exact w_School_join_b19 X Y  h
      · have h := ite_t h hc
        exact w_School_join_b14 X Y  h

theorem c_School_join {l : Launch} {g : GE} (hg : Inj g) {I : MI} {J : MJ} {Q : Int32 → MI → MJ → Prop} {x1 : Int32} {x2 : Int32} {x3 : Int32} {x4 : Int32}  (h : f_School_join x1 x2 x3 x4 I J Q) : Cm l g yX10_join cX10_join 7 (Option.some Jvm.ClassFile.FieldType.int) 7 [.ref (g.1 0), .int x1, .int x2, .int x3, .int x4] I J (Pi Q) := by
  refine Cm.of (As := fun ad => [.ref (ad 0), .int x1, .int x2, .int x3, .int x4]) hg pn_X10 (Nat.le_of_ble_eq_true rfl) ?_
  exact (fun Γ _ _ X Y => w_School_join_b0 X Y  h)
theorem cv_School_join {Γ : Ctx} {cc : ByteArray} {nL d pc index : Nat} {own : String} {L : List (Nat × Value)} {rest : List Value} {I : MI} {J : MJ} {Q : Int32 → MI → MJ → Prop} {x1 : Int32} {x2 : Int32} {x3 : Int32} {x4 : Int32} (X : Cx Γ cc nL own d) (hd : decode cc pc = .ok (.invokevirtual index, 3)) (hlink : Cond.methodLink own index yX10_join ∈ TT)  (h : f_School_join x1 x2 x3 x4 I J Q) (hrest : (rest.map fun v => v.category).sum ≤ 8) (hdd : 7 + 1 ≤ d) (kk : ∀ (r : Int32) (I' : MI) (J' : MJ), Q r I' J' → Wp Γ nL (pc + 3) L (.int r :: rest) I' J') : Wp Γ nL pc L (.int x4 :: .int x3 :: .int x2 :: .int x1 :: .ref (ad Γ 0) :: rest) I J :=
  wp_callV (As := [.int x1, .int x2, .int x3, .int x4]) (rest := rest) (T := TX10) (N := 9) X hd hlink mv_X10_join sh_0 (by decide) rfl (c_School_join X.inj  h) rfl rfl hrest hdd (fun v I' J' hv => by obtain ⟨r, rfl, hq⟩ := hv; exact kk r I' J' hq)
theorem dX6_gatherMiddles_0 : decode cX6_gatherMiddles 0 = .ok (.aload_n 0, 1) := by decide +kernel
theorem dX6_gatherMiddles_1 : decode cX6_gatherMiddles 1 = .ok (.getfield 25, 3) := by decide +kernel
theorem dX6_gatherMiddles_4 : decode cX6_gatherMiddles 4 = .ok (.iconst 0, 1) := by decide +kernel
theorem dX6_gatherMiddles_5 : decode cX6_gatherMiddles 5 = .ok (.lconst 1, 1) := by decide +kernel
theorem dX6_gatherMiddles_6 : decode cX6_gatherMiddles 6 = .ok (.lastore, 1) := by decide +kernel
theorem dX6_gatherMiddles_7 : decode cX6_gatherMiddles 7 = .ok (.aload_n 0, 1) := by decide +kernel
theorem dX6_gatherMiddles_8 : decode cX6_gatherMiddles 8 = .ok (.iconst 1, 1) := by decide +kernel
theorem dX6_gatherMiddles_9 : decode cX6_gatherMiddles 9 = .ok (.putfield 45, 3) := by decide +kernel
theorem dX6_gatherMiddles_12 : decode cX6_gatherMiddles 12 = .ok (.iconst 0, 1) := by decide +kernel
theorem dX6_gatherMiddles_13 : decode cX6_gatherMiddles 13 = .ok (.istore_n 2, 1) := by decide +kernel
theorem dX6_gatherMiddles_14 : decode cX6_gatherMiddles 14 = .ok (.iload_n 2, 1) := by decide +kernel
theorem dX6_gatherMiddles_15 : decode cX6_gatherMiddles 15 = .ok (.aload_n 0, 1) := by decide +kernel
theorem dX6_gatherMiddles_16 : decode cX6_gatherMiddles 16 = .ok (.getfield 45, 3) := by decide +kernel
theorem dX6_gatherMiddles_19 : decode cX6_gatherMiddles 19 = .ok (.if_icmp .ge 101, 3) := by decide +kernel
theorem dX6_gatherMiddles_22 : decode cX6_gatherMiddles 22 = .ok (.iload_n 2, 1) := by decide +kernel
theorem dX6_gatherMiddles_23 : decode cX6_gatherMiddles 23 = .ok (.bipush 13, 2) := by decide +kernel
theorem dX6_gatherMiddles_25 : decode cX6_gatherMiddles 25 = .ok (.if_icmp .ge 95, 3) := by decide +kernel
theorem dX6_gatherMiddles_28 : decode cX6_gatherMiddles 28 = .ok (.aload_n 0, 1) := by decide +kernel
theorem dX6_gatherMiddles_29 : decode cX6_gatherMiddles 29 = .ok (.getfield 25, 3) := by decide +kernel
theorem dX6_gatherMiddles_32 : decode cX6_gatherMiddles 32 = .ok (.iload_n 2, 1) := by decide +kernel
theorem dX6_gatherMiddles_33 : decode cX6_gatherMiddles 33 = .ok (.laload, 1) := by decide +kernel
theorem dX6_gatherMiddles_34 : decode cX6_gatherMiddles 34 = .ok (.invokestatic 49, 3) := by decide +kernel
theorem dX6_gatherMiddles_37 : decode cX6_gatherMiddles 37 = .ok (.iload_n 1, 1) := by decide +kernel
theorem dX6_gatherMiddles_38 : decode cX6_gatherMiddles 38 = .ok (.if_icmp .ge 7, 3) := by decide +kernel
theorem dX6_gatherMiddles_41 : decode cX6_gatherMiddles 41 = .ok (.iconst 1, 1) := by decide +kernel
theorem dX6_gatherMiddles_42 : decode cX6_gatherMiddles 42 = .ok (.goto 4, 3) := by decide +kernel
theorem dX6_gatherMiddles_45 : decode cX6_gatherMiddles 45 = .ok (.iconst 0, 1) := by decide +kernel
theorem dX6_gatherMiddles_46 : decode cX6_gatherMiddles 46 = .ok (.istore_n 3, 1) := by decide +kernel
theorem dX6_gatherMiddles_47 : decode cX6_gatherMiddles 47 = .ok (.iconst 0, 1) := by decide +kernel
theorem dX6_gatherMiddles_48 : decode cX6_gatherMiddles 48 = .ok (.istore 4, 2) := by decide +kernel
theorem dX6_gatherMiddles_50 : decode cX6_gatherMiddles 50 = .ok (.iload_n 3, 1) := by decide +kernel
theorem dX6_gatherMiddles_51 : decode cX6_gatherMiddles 51 = .ok (.ifCond .eq 63, 3) := by decide +kernel
theorem dX6_gatherMiddles_54 : decode cX6_gatherMiddles 54 = .ok (.iload 4, 2) := by decide +kernel
theorem dX6_gatherMiddles_56 : decode cX6_gatherMiddles 56 = .ok (.aload_n 0, 1) := by decide +kernel
theorem dX6_gatherMiddles_57 : decode cX6_gatherMiddles 57 = .ok (.getfield 12, 3) := by decide +kernel
theorem dX6_gatherMiddles_60 : decode cX6_gatherMiddles 60 = .ok (.getfield 55, 3) := by decide +kernel
theorem dX6_gatherMiddles_63 : decode cX6_gatherMiddles 63 = .ok (.if_icmp .ge 51, 3) := by decide +kernel
theorem dX6_gatherMiddles_66 : decode cX6_gatherMiddles 66 = .ok (.aload_n 0, 1) := by decide +kernel
theorem dX6_gatherMiddles_67 : decode cX6_gatherMiddles 67 = .ok (.getfield 45, 3) := by decide +kernel
theorem dX6_gatherMiddles_70 : decode cX6_gatherMiddles 70 = .ok (.bipush 13, 2) := by decide +kernel
theorem dX6_gatherMiddles_72 : decode cX6_gatherMiddles 72 = .ok (.if_icmp .ge 42, 3) := by decide +kernel
theorem dX6_gatherMiddles_75 : decode cX6_gatherMiddles 75 = .ok (.aload_n 0, 1) := by decide +kernel
theorem dX6_gatherMiddles_76 : decode cX6_gatherMiddles 76 = .ok (.getfield 25, 3) := by decide +kernel
theorem dX6_gatherMiddles_79 : decode cX6_gatherMiddles 79 = .ok (.aload_n 0, 1) := by decide +kernel
theorem dX6_gatherMiddles_80 : decode cX6_gatherMiddles 80 = .ok (.getfield 45, 3) := by decide +kernel
theorem dX6_gatherMiddles_83 : decode cX6_gatherMiddles 83 = .ok (.ldc2_w 58, 3) := by decide +kernel
theorem dX6_gatherMiddles_86 : decode cX6_gatherMiddles 86 = .ok (.aload_n 0, 1) := by decide +kernel
theorem dX6_gatherMiddles_87 : decode cX6_gatherMiddles 87 = .ok (.getfield 25, 3) := by decide +kernel
theorem dX6_gatherMiddles_90 : decode cX6_gatherMiddles 90 = .ok (.iload_n 2, 1) := by decide +kernel
theorem dX6_gatherMiddles_91 : decode cX6_gatherMiddles 91 = .ok (.laload, 1) := by decide +kernel
theorem dX6_gatherMiddles_92 : decode cX6_gatherMiddles 92 = .ok (.lmul, 1) := by decide +kernel
theorem dX6_gatherMiddles_93 : decode cX6_gatherMiddles 93 = .ok (.iload 4, 2) := by decide +kernel
theorem dX6_gatherMiddles_95 : decode cX6_gatherMiddles 95 = .ok (.i2l, 1) := by decide +kernel
theorem dX6_gatherMiddles_96 : decode cX6_gatherMiddles 96 = .ok (.ladd, 1) := by decide +kernel
theorem dX6_gatherMiddles_97 : decode cX6_gatherMiddles 97 = .ok (.lastore, 1) := by decide +kernel
theorem dX6_gatherMiddles_98 : decode cX6_gatherMiddles 98 = .ok (.aload_n 0, 1) := by decide +kernel
theorem dX6_gatherMiddles_99 : decode cX6_gatherMiddles 99 = .ok (.dup, 1) := by decide +kernel
theorem dX6_gatherMiddles_100 : decode cX6_gatherMiddles 100 = .ok (.getfield 45, 3) := by decide +kernel
theorem dX6_gatherMiddles_103 : decode cX6_gatherMiddles 103 = .ok (.iconst 1, 1) := by decide +kernel
theorem dX6_gatherMiddles_104 : decode cX6_gatherMiddles 104 = .ok (.iadd, 1) := by decide +kernel
theorem dX6_gatherMiddles_105 : decode cX6_gatherMiddles 105 = .ok (.putfield 45, 3) := by decide +kernel
theorem dX6_gatherMiddles_108 : decode cX6_gatherMiddles 108 = .ok (.iinc 4 1, 3) := by decide +kernel
theorem dX6_gatherMiddles_111 : decode cX6_gatherMiddles 111 = .ok (.goto (-61), 3) := by decide +kernel
theorem dX6_gatherMiddles_114 : decode cX6_gatherMiddles 114 = .ok (.iinc 2 1, 3) := by decide +kernel
theorem dX6_gatherMiddles_117 : decode cX6_gatherMiddles 117 = .ok (.goto (-103), 3) := by decide +kernel
theorem dX6_gatherMiddles_120 : decode cX6_gatherMiddles 120 = .ok (.return_, 1) := by decide +kernel
def f_Suite_gatherMiddles_b114 (x2 : Int32) (kh : Int32 → MI → MJ → Prop) (I : MI) (J : MJ) : Prop :=
  ∀ t114 : Int32, t114 = x2 + 1 → kh t114 I J
def f_Suite_gatherMiddles_L50 (x2 : Int32) (x3 : Int32) (k114 : MI → MJ → Prop) : Nat → Int32 → MI → MJ → Prop
  | 0, _, _, _ => False
  | nf50 + 1, x4, I, J =>
  (if x3 = 0 then k114 I J else (if (I 27 2) ≤ x4 then k114 I J else (if 13 ≤ (I 26 2) then k114 I J else vp_in x2 13 ∧ vp_in (I 26 2) 13 ∧ ∀ J97 : MJ, J97 = sJ J 34 (vp_updL (J 34) (I 26 2).toNatClampNeg ((4 * (J 34 x2.toNatClampNeg)) + x4.toInt64)) → ∀ I105 : MI, I105 = sI I 26 (upd (I 26) 2 ((I 26 2) + 1)) → ∀ t108 : Int32, t108 = x4 + 1 → f_Suite_gatherMiddles_L50 x2 x3 k114 nf50 t108 I105 J97)))
def f_Suite_gatherMiddles_b46 (x2 : Int32) (s0 : Int32) (kh : Int32 → MI → MJ → Prop) (I : MI) (J : MJ) : Prop :=
  ∃ n, f_Suite_gatherMiddles_L50 x2 s0 (fun (I : MI) (J : MJ) => f_Suite_gatherMiddles_b114 x2 kh I J) n 0 I J
def f_Suite_gatherMiddles_L14 (x1 : Int32) (k120 : MI → MJ → Prop) : Nat → Int32 → MI → MJ → Prop
  | 0, _, _, _ => False
  | nf14 + 1, x2, I, J =>
  (if (I 26 2) ≤ x2 then k120 I J else (if 13 ≤ x2 then k120 I J else vp_in x2 13 ∧ f_Words_lengthOf (J 34 x2.toNatClampNeg) I J (fun r34 I34 J34 => (if x1 ≤ r34 then f_Suite_gatherMiddles_b46 x2 0 (f_Suite_gatherMiddles_L14 x1 k120 nf14) I34 J34 else f_Suite_gatherMiddles_b46 x2 1 (f_Suite_gatherMiddles_L14 x1 k120 nf14) I34 J34))))
def f_Suite_gatherMiddles (x1 : Int32) (I : MI) (J : MJ) (Q : MI → MJ → Prop) : Prop :=
  vp_in 0 13 ∧ ∀ J6 : MJ, J6 = sJ J 34 (vp_updL (J 34) (0 : Int32).toNatClampNeg 1) → ∀ I9 : MI, I9 = sI I 26 (upd (I 26) 2 1) → ∃ n, f_Suite_gatherMiddles_L14 x1 (fun (I : MI) (J : MJ) => Q I J) n 0 I9 J6
set_option maxRecDepth 100000 in
set_option maxHeartbeats 4000000 in
theorem w_Suite_gatherMiddles_b114 {Γ : Ctx} {Q : MI → MJ → Prop} {x1 : Int32} {x2 : Int32} {kh : Int32 → MI → MJ → Prop} (X : Cx Γ cX6_gatherMiddles 5 RX6 1) (Y : Rt Γ (Pv Q) (Option.none : Option Jvm.ClassFile.FieldType))  (hkh : ∀ (x2 : Int32) (I : MI) (J : MJ), kh x2 I J → Wp Γ 5 14 [(0, .ref (ad Γ 26)), (1, .int x1), (2, .int x2)] [] I J) {I : MI} {J : MJ} (h : f_Suite_gatherMiddles_b114 x2 kh I J) : Wp Γ 5 114 [(0, .ref (ad Γ 26)), (1, .int x1), (2, .int x2)] [] I J := by
  unfold f_Suite_gatherMiddles_b114 at h
  obtain ⟨t114, et114⟩ : ∃ y : Int32, y = x2 + 1 := ⟨_, rfl⟩
  have h := h t114 et114
  refine wp_iinc (L' := [(2, .int t114), (0, .ref (ad Γ 26)), (1, .int x1)]) X dX6_gatherMiddles_114 2 rfl (ii_1 et114) (by decide) rfl ?_
  refine wp_goto (tgt := 14) X dX6_gatherMiddles_117 (by decide) ?_
  refine wp_sub X [1, 2, 0] rfl ?_
  exact hkh _ _ _ h

set_option maxRecDepth 100000 in
set_option maxHeartbeats 4000000 in
theorem w_Suite_gatherMiddles_L50 {Γ : Ctx} {Q : MI → MJ → Prop} {x1 : Int32} {x2 : Int32} {x3 : Int32} {k114 : MI → MJ → Prop} (X : Cx Γ cX6_gatherMiddles 5 RX6 1) (Y : Rt Γ (Pv Q) (Option.none : Option Jvm.ClassFile.FieldType))  (hk114 : ∀ (I : MI) (J : MJ), k114 I J → Wp Γ 5 114 [(0, .ref (ad Γ 26)), (1, .int x1), (2, .int x2)] [] I J) : ∀ (n : Nat) (x4 : Int32) (I : MI) (J : MJ), f_Suite_gatherMiddles_L50 x2 x3 k114 n x4 I J → Wp Γ 5 50 [(0, .ref (ad Γ 26)), (1, .int x1), (2, .int x2), (3, .int x3), (4, .int x4)] [] I J := by
  intro n
  induction n with
  | zero => intro x4 I J h; exact absurd h (by simp [f_Suite_gatherMiddles_L50])
  | succ n ih =>
  intro x4 I J h
  unfold f_Suite_gatherMiddles_L50 at h
  refine wp_iload_n X dX6_gatherMiddles_50 3 rfl ?_
  refine wp_if_eq (tgt := 114) X dX6_gatherMiddles_51 (by decide) (fun hc => ?_) (fun hc => ?_)
  · have h := ite_t h hc
    refine wp_sub X [0, 1, 2] rfl ?_
    exact hk114 _ _ h
  · have h := ite_f h hc
    refine wp_iload X dX6_gatherMiddles_54 4 rfl ?_
    refine wp_aload_n X dX6_gatherMiddles_56 0 rfl ?_
    refine gf_X6_12 (o' := 27) X sh_26 rfl dX6_gatherMiddles_57 ?_
    refine gf_X6_55 X okM_27.1 dX6_gatherMiddles_60 ?_
    refine wp_icmp_ge (tgt := 114) X dX6_gatherMiddles_63 (by decide) (fun hc => ?_) (fun hc => ?_)
    · have h := ite_t h hc
      refine wp_sub X [0, 1, 2] rfl ?_
      exact hk114 _ _ h
    · have h := ite_f h hc
      refine wp_aload_n X dX6_gatherMiddles_66 0 rfl ?_
      refine gf_X6_45 X sh_26 dX6_gatherMiddles_67 ?_
      refine wp_bipush X dX6_gatherMiddles_70 bi_13 ?_
      refine wp_icmp_ge (tgt := 114) X dX6_gatherMiddles_72 (by decide) (fun hc => ?_) (fun hc => ?_)
      · have h := ite_t h hc
        refine wp_sub X [0, 1, 2] rfl ?_
        exact hk114 _ _ h
      · have h := ite_f h hc
        refine wp_aload_n X dX6_gatherMiddles_75 0 rfl ?_
        refine gf_X6_25 (o' := 34) X sh_26 rfl dX6_gatherMiddles_76 ?_
        refine wp_aload_n X dX6_gatherMiddles_79 0 rfl ?_
        refine gf_X6_45 X sh_26 dX6_gatherMiddles_80 ?_
        refine wp_ldc2 X kl_X6_58 dX6_gatherMiddles_83 ?_
        refine wp_aload_n X dX6_gatherMiddles_86 0 rfl ?_
        refine gf_X6_25 (o' := 34) X sh_26 rfl dX6_gatherMiddles_87 ?_
        refine wp_iload_n X dX6_gatherMiddles_90 2 rfl ?_
        obtain ⟨hb91, h⟩ := h
        refine wp_lald X sh_34 hb91 dX6_gatherMiddles_91 ?_
        refine wp_lmul X dX6_gatherMiddles_92 ?_
        refine wp_iload X dX6_gatherMiddles_93 4 rfl ?_
        refine wp_i2l X dX6_gatherMiddles_95 ?_
        refine wp_ladd X dX6_gatherMiddles_96 ?_
        obtain ⟨hb97, h⟩ := h
        refine wp_last X sh_34 hb97 dX6_gatherMiddles_97 ?_
        refine wp_memJ (fun J97 eJ97 => ?_)
        have h := h J97 eJ97
        refine wp_aload_n X dX6_gatherMiddles_98 0 rfl ?_
        refine wp_dup X dX6_gatherMiddles_99 rfl ?_
        refine gf_X6_45 X sh_26 dX6_gatherMiddles_100 ?_
        refine wp_iconst X dX6_gatherMiddles_103 ic_1 ?_
        refine wp_iadd X dX6_gatherMiddles_104 ?_
        refine pf_X6_45 X sh_26 dX6_gatherMiddles_105 (fun I105 eI105 => ?_)
        have h := h I105 eI105
        obtain ⟨t108, et108⟩ : ∃ y : Int32, y = x4 + 1 := ⟨_, rfl⟩
        have h := h t108 et108
        refine wp_iinc (L' := [(4, .int t108), (0, .ref (ad Γ 26)), (1, .int x1), (2, .int x2), (3, .int x3)]) X dX6_gatherMiddles_108 4 rfl (ii_1 et108) (by decide) rfl ?_
        refine wp_goto (tgt := 50) X dX6_gatherMiddles_111 (by decide) ?_
        refine wp_sub X [1, 2, 3, 4, 0] rfl ?_
        exact ih _ _ _ h

set_option maxRecDepth 100000 in
set_option maxHeartbeats 4000000 in
theorem w_Suite_gatherMiddles_b46 {Γ : Ctx} {Q : MI → MJ → Prop} {x1 : Int32} {x2 : Int32} {s0 : Int32} {kh : Int32 → MI → MJ → Prop} (X : Cx Γ cX6_gatherMiddles 5 RX6 1) (Y : Rt Γ (Pv Q) (Option.none : Option Jvm.ClassFile.FieldType))  (hkh : ∀ (x2 : Int32) (I : MI) (J : MJ), kh x2 I J → Wp Γ 5 14 [(0, .ref (ad Γ 26)), (1, .int x1), (2, .int x2)] [] I J) {I : MI} {J : MJ} (h : f_Suite_gatherMiddles_b46 x2 s0 kh I J) : Wp Γ 5 46 [(0, .ref (ad Γ 26)), (1, .int x1), (2, .int x2)] [.int s0] I J := by
  unfold f_Suite_gatherMiddles_b46 at h
  refine wp_istore_n (L' := [(3, .int s0), (0, .ref (ad Γ 26)), (1, .int x1), (2, .int x2)]) X dX6_gatherMiddles_46 rfl (by decide) rfl ?_
  refine wp_iconst X dX6_gatherMiddles_47 ic_0 ?_
  refine wp_istore (L' := [(4, .int 0), (3, .int s0), (0, .ref (ad Γ 26)), (1, .int x1), (2, .int x2)]) X dX6_gatherMiddles_48 (by decide) rfl ?_
  obtain ⟨n, h⟩ := h
  refine wp_sub X [2, 3, 4, 1, 0] rfl ?_
  refine w_Suite_gatherMiddles_L50 X Y  ?_ n _ _ _ h
  · intro I J h
    exact w_Suite_gatherMiddles_b114 X Y hkh h

set_option maxRecDepth 100000 in
set_option maxHeartbeats 4000000 in
theorem w_Suite_gatherMiddles_L14 {Γ : Ctx} {Q : MI → MJ → Prop} {x1 : Int32} {k120 : MI → MJ → Prop} (X : Cx Γ cX6_gatherMiddles 5 RX6 1) (Y : Rt Γ (Pv Q) (Option.none : Option Jvm.ClassFile.FieldType))  (hk120 : ∀ (I : MI) (J : MJ), k120 I J → Wp Γ 5 120 [] [] I J) : ∀ (n : Nat) (x2 : Int32) (I : MI) (J : MJ), f_Suite_gatherMiddles_L14 x1 k120 n x2 I J → Wp Γ 5 14 [(0, .ref (ad Γ 26)), (1, .int x1), (2, .int x2)] [] I J := by
  intro n
  induction n with
  | zero => intro x2 I J h; exact absurd h (by simp [f_Suite_gatherMiddles_L14])
  | succ n ih =>
  intro x2 I J h
  unfold f_Suite_gatherMiddles_L14 at h
  refine wp_iload_n X dX6_gatherMiddles_14 2 rfl ?_
  refine wp_aload_n X dX6_gatherMiddles_15 0 rfl ?_
  refine gf_X6_45 X sh_26 dX6_gatherMiddles_16 ?_
  refine wp_icmp_ge (tgt := 120) X dX6_gatherMiddles_19 (by decide) (fun hc => ?_) (fun hc => ?_)
  · have h := ite_t h hc
    refine wp_sub X [] rfl ?_
    exact hk120 _ _ h
  · have h := ite_f h hc
    refine wp_iload_n X dX6_gatherMiddles_22 2 rfl ?_
    refine wp_bipush X dX6_gatherMiddles_23 bi_13 ?_
    refine wp_icmp_ge (tgt := 120) X dX6_gatherMiddles_25 (by decide) (fun hc => ?_) (fun hc => ?_)
    · have h := ite_t h hc
      refine wp_sub X [] rfl ?_
      exact hk120 _ _ h
    · have h := ite_f h hc
      refine wp_aload_n X dX6_gatherMiddles_28 0 rfl ?_
      refine gf_X6_25 (o' := 34) X sh_26 rfl dX6_gatherMiddles_29 ?_
      refine wp_iload_n X dX6_gatherMiddles_32 2 rfl ?_
      obtain ⟨hb33, h⟩ := h
      refine wp_lald X sh_34 hb33 dX6_gatherMiddles_33 ?_
      refine cs_Words_lengthOf X dX6_gatherMiddles_34 ml_X6_49  h (Nat.le_of_ble_eq_true rfl) (by decide) (fun r34 I34 J34 h => ?_)
      refine wp_iload_n X dX6_gatherMiddles_37 1 rfl ?_
      refine wp_icmp_ge (tgt := 45) X dX6_gatherMiddles_38 (by decide) (fun hc => ?_) (fun hc => ?_)
      · have h := ite_t h hc
        refine wp_iconst X dX6_gatherMiddles_45 ic_0 ?_
        exact w_Suite_gatherMiddles_b46 X Y ih h
      · have h := ite_f h hc
        refine wp_iconst X dX6_gatherMiddles_41 ic_1 ?_
        refine wp_goto (tgt := 46) X dX6_gatherMiddles_42 (by decide) ?_
        exact w_Suite_gatherMiddles_b46 X Y ih h

set_option maxRecDepth 100000 in
set_option maxHeartbeats 4000000 in
theorem w_Suite_gatherMiddles_b0 {Γ : Ctx} {Q : MI → MJ → Prop} {x1 : Int32}  (X : Cx Γ cX6_gatherMiddles 5 RX6 1) (Y : Rt Γ (Pv Q) (Option.none : Option Jvm.ClassFile.FieldType))   {I : MI} {J : MJ} (h : f_Suite_gatherMiddles x1 I J Q) : Wp Γ 5 0 [(0, .ref (ad Γ 26)), (1, .int x1)] [] I J := by
  unfold f_Suite_gatherMiddles at h
  refine wp_aload_n X dX6_gatherMiddles_0 0 rfl ?_
  refine gf_X6_25 (o' := 34) X sh_26 rfl dX6_gatherMiddles_1 ?_
  refine wp_iconst X dX6_gatherMiddles_4 ic_0 ?_
  refine wp_lconst X dX6_gatherMiddles_5 lc_1 ?_
  obtain ⟨hb6, h⟩ := h
  refine wp_last X sh_34 hb6 dX6_gatherMiddles_6 ?_
  refine wp_memJ (fun J6 eJ6 => ?_)
  have h := h J6 eJ6
  refine wp_aload_n X dX6_gatherMiddles_7 0 rfl ?_
  refine wp_iconst X dX6_gatherMiddles_8 ic_1 ?_
  refine pf_X6_45 X sh_26 dX6_gatherMiddles_9 (fun I9 eI9 => ?_)
  have h := h I9 eI9
  refine wp_iconst X dX6_gatherMiddles_12 ic_0 ?_
  refine wp_istore_n (L' := [(2, .int 0), (0, .ref (ad Γ 26)), (1, .int x1)]) X dX6_gatherMiddles_13 rfl (by decide) rfl ?_
  obtain ⟨n, h⟩ := h
  refine wp_sub X [1, 2, 0] rfl ?_
  refine w_Suite_gatherMiddles_L14 X Y  ?_ n _ _ _ h
  · intro I J h
    exact wp_vret X Y dX6_gatherMiddles_120 ⟨rfl, h⟩

theorem c_Suite_gatherMiddles {l : Launch} {g : GE} (hg : Inj g) {I : MI} {J : MJ} {Q : MI → MJ → Prop} {x1 : Int32}  (h : f_Suite_gatherMiddles x1 I J Q) : Cm l g yX6_gatherMiddles cX6_gatherMiddles 5 (Option.none : Option Jvm.ClassFile.FieldType) 1 [.ref (g.1 26), .int x1] I J (Pv Q) := by
  refine Cm.of (As := fun ad => [.ref (ad 26), .int x1]) hg pn_X6 (Nat.le_of_ble_eq_true rfl) ?_
  exact (fun Γ _ _ X Y => w_Suite_gatherMiddles_b0 X Y  h)
theorem cv_Suite_gatherMiddles {Γ : Ctx} {cc : ByteArray} {nL d pc index : Nat} {own : String} {L : List (Nat × Value)} {rest : List Value} {I : MI} {J : MJ} {Q : MI → MJ → Prop} {x1 : Int32} (X : Cx Γ cc nL own d) (hd : decode cc pc = .ok (.invokevirtual index, 3)) (hlink : Cond.methodLink own index yX6_gatherMiddles ∈ TT)  (h : f_Suite_gatherMiddles x1 I J Q) (hrest : (rest.map fun v => v.category).sum ≤ 8) (hdd : 1 + 1 ≤ d) (kk : ∀ (I' : MI) (J' : MJ), Q I' J' → Wp Γ nL (pc + 3) L rest I' J') : Wp Γ nL pc L (.int x1 :: .ref (ad Γ 26) :: rest) I J :=
  wp_callV (As := [.int x1]) (rest := rest) (T := TX6) (N := 9) X hd hlink mv_X6_gatherMiddles sh_26 (by decide) rfl (c_Suite_gatherMiddles X.inj  h) rfl rfl hrest hdd (fun v I' J' hv => by obtain ⟨rfl, hq⟩ := hv; exact kk I' J' hq)
theorem dX6_addHead_0 : decode cX6_addHead 0 = .ok (.aload_n 0, 1) := by decide +kernel
theorem dX6_addHead_1 : decode cX6_addHead 1 = .ok (.getfield 60, 3) := by decide +kernel
theorem dX6_addHead_4 : decode cX6_addHead 4 = .ok (.sipush 175, 3) := by decide +kernel
theorem dX6_addHead_7 : decode cX6_addHead 7 = .ok (.if_icmp .ge 23, 3) := by decide +kernel
theorem dX6_addHead_10 : decode cX6_addHead 10 = .ok (.aload_n 0, 1) := by decide +kernel
theorem dX6_addHead_11 : decode cX6_addHead 11 = .ok (.getfield 22, 3) := by decide +kernel
theorem dX6_addHead_14 : decode cX6_addHead 14 = .ok (.aload_n 0, 1) := by decide +kernel
theorem dX6_addHead_15 : decode cX6_addHead 15 = .ok (.getfield 60, 3) := by decide +kernel
theorem dX6_addHead_18 : decode cX6_addHead 18 = .ok (.lload_n 1, 1) := by decide +kernel
theorem dX6_addHead_19 : decode cX6_addHead 19 = .ok (.lastore, 1) := by decide +kernel
theorem dX6_addHead_20 : decode cX6_addHead 20 = .ok (.aload_n 0, 1) := by decide +kernel
theorem dX6_addHead_21 : decode cX6_addHead 21 = .ok (.dup, 1) := by decide +kernel
theorem dX6_addHead_22 : decode cX6_addHead 22 = .ok (.getfield 60, 3) := by decide +kernel
theorem dX6_addHead_25 : decode cX6_addHead 25 = .ok (.iconst 1, 1) := by decide +kernel
theorem dX6_addHead_26 : decode cX6_addHead 26 = .ok (.iadd, 1) := by decide +kernel
theorem dX6_addHead_27 : decode cX6_addHead 27 = .ok (.putfield 60, 3) := by decide +kernel
theorem dX6_addHead_30 : decode cX6_addHead 30 = .ok (.return_, 1) := by decide +kernel
def f_Suite_addHead (x1 : Int64) (I : MI) (J : MJ) (Q : MI → MJ → Prop) : Prop :=
  (if 175 ≤ (I 26 1) then Q I J else vp_in (I 26 1) 175 ∧ ∀ J19 : MJ, J19 = sJ J 33 (vp_updL (J 33) (I 26 1).toNatClampNeg x1) → ∀ I27 : MI, I27 = sI I 26 (upd (I 26) 1 ((I 26 1) + 1)) → Q I27 J19)
set_option maxRecDepth 100000 in
set_option maxHeartbeats 4000000 in
theorem w_Suite_addHead_b0 {Γ : Ctx} {Q : MI → MJ → Prop} {x1 : Int64}  (X : Cx Γ cX6_addHead 3 RX6 0) (Y : Rt Γ (Pv Q) (Option.none : Option Jvm.ClassFile.FieldType))   {I : MI} {J : MJ} (h : f_Suite_addHead x1 I J Q) : Wp Γ 3 0 [(0, .ref (ad Γ 26)), (1, .long x1)] [] I J := by
  unfold f_Suite_addHead at h
  refine wp_aload_n X dX6_addHead_0 0 rfl ?_
  refine gf_X6_60 X sh_26 dX6_addHead_1 ?_
  refine wp_sipush X dX6_addHead_4 si_175 ?_
  refine wp_icmp_ge (tgt := 30) X dX6_addHead_7 (by decide) (fun hc => ?_) (fun hc => ?_)
  · have h := ite_t h hc
    exact wp_vret X Y dX6_addHead_30 ⟨rfl, h⟩
  · have h := ite_f h hc
    refine wp_aload_n X dX6_addHead_10 0 rfl ?_
    refine gf_X6_22 (o' := 33) X sh_26 rfl dX6_addHead_11 ?_
    refine wp_aload_n X dX6_addHead_14 0 rfl ?_
    refine gf_X6_60 X sh_26 dX6_addHead_15 ?_
    refine wp_lload_n X dX6_addHead_18 1 rfl ?_
    obtain ⟨hb19, h⟩ := h
    refine wp_last X sh_33 hb19 dX6_addHead_19 ?_
    refine wp_memJ (fun J19 eJ19 => ?_)
    have h := h J19 eJ19
    refine wp_aload_n X dX6_addHead_20 0 rfl ?_
    refine wp_dup X dX6_addHead_21 rfl ?_
    refine gf_X6_60 X sh_26 dX6_addHead_22 ?_
    refine wp_iconst X dX6_addHead_25 ic_1 ?_
    refine wp_iadd X dX6_addHead_26 ?_
    refine pf_X6_60 X sh_26 dX6_addHead_27 (fun I27 eI27 => ?_)
    have h := h I27 eI27
    exact wp_vret X Y dX6_addHead_30 ⟨rfl, h⟩

theorem c_Suite_addHead {l : Launch} {g : GE} (hg : Inj g) {I : MI} {J : MJ} {Q : MI → MJ → Prop} {x1 : Int64}  (h : f_Suite_addHead x1 I J Q) : Cm l g yX6_addHead cX6_addHead 3 (Option.none : Option Jvm.ClassFile.FieldType) 0 [.ref (g.1 26), .long x1] I J (Pv Q) := by
  refine Cm.of (As := fun ad => [.ref (ad 26), .long x1]) hg pn_X6 (Nat.le_of_ble_eq_true rfl) ?_
  exact (fun Γ _ _ X Y => w_Suite_addHead_b0 X Y  h)
theorem cv_Suite_addHead {Γ : Ctx} {cc : ByteArray} {nL d pc index : Nat} {own : String} {L : List (Nat × Value)} {rest : List Value} {I : MI} {J : MJ} {Q : MI → MJ → Prop} {x1 : Int64} (X : Cx Γ cc nL own d) (hd : decode cc pc = .ok (.invokevirtual index, 3)) (hlink : Cond.methodLink own index yX6_addHead ∈ TT)  (h : f_Suite_addHead x1 I J Q) (hrest : (rest.map fun v => v.category).sum ≤ 8) (hdd : 0 + 1 ≤ d) (kk : ∀ (I' : MI) (J' : MJ), Q I' J' → Wp Γ nL (pc + 3) L rest I' J') : Wp Γ nL pc L (.long x1 :: .ref (ad Γ 26) :: rest) I J :=
  wp_callV (As := [.long x1]) (rest := rest) (T := TX6) (N := 9) X hd hlink mv_X6_addHead sh_26 (by decide) rfl (c_Suite_addHead X.inj  h) rfl rfl hrest hdd (fun v I' J' hv => by obtain ⟨rfl, hq⟩ := hv; exact kk I' J' hq)
theorem dX9_lastSigns_0 : decode cX9_lastSigns 0 = .ok (.lconst 1, 1) := by decide +kernel
theorem dX9_lastSigns_1 : decode cX9_lastSigns 1 = .ok (.iconst 2, 1) := by decide +kernel
theorem dX9_lastSigns_2 : decode cX9_lastSigns 2 = .ok (.iload_n 2, 1) := by decide +kernel
theorem dX9_lastSigns_3 : decode cX9_lastSigns 3 = .ok (.imul, 1) := by decide +kernel
theorem dX9_lastSigns_4 : decode cX9_lastSigns 4 = .ok (.lshl, 1) := by decide +kernel
theorem dX9_lastSigns_5 : decode cX9_lastSigns 5 = .ok (.lstore_n 3, 1) := by decide +kernel
theorem dX9_lastSigns_6 : decode cX9_lastSigns 6 = .ok (.lload_n 0, 1) := by decide +kernel
theorem dX9_lastSigns_7 : decode cX9_lastSigns 7 = .ok (.lload_n 3, 1) := by decide +kernel
theorem dX9_lastSigns_8 : decode cX9_lastSigns 8 = .ok (.lconst 1, 1) := by decide +kernel
theorem dX9_lastSigns_9 : decode cX9_lastSigns 9 = .ok (.lsub, 1) := by decide +kernel
theorem dX9_lastSigns_10 : decode cX9_lastSigns 10 = .ok (.land, 1) := by decide +kernel
theorem dX9_lastSigns_11 : decode cX9_lastSigns 11 = .ok (.lload_n 3, 1) := by decide +kernel
theorem dX9_lastSigns_12 : decode cX9_lastSigns 12 = .ok (.ladd, 1) := by decide +kernel
theorem dX9_lastSigns_13 : decode cX9_lastSigns 13 = .ok (.lreturn, 1) := by decide +kernel
def f_Words_lastSigns (x0 : Int64) (x2 : Int32) (I : MI) (J : MJ) (Q : Int64 → MI → MJ → Prop) : Prop :=
  ∀ t5 : Int64, t5 = (1 : Int64) <<< ((2 * x2).toInt64 &&& 63) → Q ((x0 &&& (t5 - 1)) + t5) I J
set_option maxRecDepth 100000 in
set_option maxHeartbeats 4000000 in
theorem w_Words_lastSigns_b0 {Γ : Ctx} {Q : Int64 → MI → MJ → Prop} {x0 : Int64} {x2 : Int32}  (X : Cx Γ cX9_lastSigns 5 RX9 0) (Y : Rt Γ (Pl Q) (Option.some Jvm.ClassFile.FieldType.long))   {I : MI} {J : MJ} (h : f_Words_lastSigns x0 x2 I J Q) : Wp Γ 5 0 [(0, .long x0), (2, .int x2)] [] I J := by
  unfold f_Words_lastSigns at h
  refine wp_lconst X dX9_lastSigns_0 lc_1 ?_
  refine wp_iconst X dX9_lastSigns_1 ic_2 ?_
  refine wp_iload_n X dX9_lastSigns_2 1 rfl ?_
  refine wp_imul X dX9_lastSigns_3 ?_
  refine wp_lshl X dX9_lastSigns_4 ?_
  refine wp_topl (fun t5 et5 => ?_)
  have h := h t5 et5
  refine wp_lstore_n (L' := [(3, .long t5), (0, .long x0), (2, .int x2)]) X dX9_lastSigns_5 rfl (by decide) rfl ?_
  refine wp_lload_n X dX9_lastSigns_6 1 rfl ?_
  refine wp_lload_n X dX9_lastSigns_7 0 rfl ?_
  refine wp_lconst X dX9_lastSigns_8 lc_1 ?_
  refine wp_lsub X dX9_lastSigns_9 ?_
  refine wp_land X dX9_lastSigns_10 ?_
  refine wp_lload_n X dX9_lastSigns_11 0 rfl ?_
  refine wp_ladd X dX9_lastSigns_12 ?_
  exact wp_lret X Y dX9_lastSigns_13 ⟨_, rfl, h⟩

theorem c_Words_lastSigns {l : Launch} {g : GE} (hg : Inj g) {I : MI} {J : MJ} {Q : Int64 → MI → MJ → Prop} {x0 : Int64} {x2 : Int32}  (h : f_Words_lastSigns x0 x2 I J Q) : Cm l g yX9_lastSigns cX9_lastSigns 5 (Option.some Jvm.ClassFile.FieldType.long) 0 [.long x0, .int x2] I J (Pl Q) := by
  refine Cm.of (As := fun ad => [.long x0, .int x2]) hg pn_X9 (Nat.le_of_ble_eq_true rfl) ?_
  exact (fun Γ _ _ X Y => w_Words_lastSigns_b0 X Y  h)
theorem cs_Words_lastSigns {Γ : Ctx} {cc : ByteArray} {nL d pc index : Nat} {own : String} {L : List (Nat × Value)} {rest : List Value} {I : MI} {J : MJ} {Q : Int64 → MI → MJ → Prop} {x0 : Int64} {x2 : Int32} (X : Cx Γ cc nL own d) (hd : decode cc pc = .ok (.invokestatic index, 3)) (hlink : Cond.methodLink own index yX9_lastSigns ∈ TT)  (h : f_Words_lastSigns x0 x2 I J Q) (hrest : (rest.map fun v => v.category).sum ≤ 8) (hdd : 0 + 1 ≤ d) (kk : ∀ (r : Int64) (I' : MI) (J' : MJ), Q r I' J' → Wp Γ nL (pc + 3) L (.long r :: rest) I' J') : Wp Γ nL pc L (.int x2 :: .long x0 :: rest) I J :=
  wp_callS (As := [.long x0, .int x2]) (rest := rest) X hd hlink mv_X9_lastSigns (c_Words_lastSigns X.inj  h) rfl rfl hrest hdd (fun v I' J' hv => by obtain ⟨r, rfl, hq⟩ := hv; exact kk r I' J' hq)
theorem dX9_joined_0 : decode cX9_joined 0 = .ok (.lload_n 2, 1) := by decide +kernel
theorem dX9_joined_1 : decode cX9_joined 1 = .ok (.invokestatic 9, 3) := by decide +kernel
theorem dX9_joined_4 : decode cX9_joined 4 = .ok (.istore 4, 2) := by decide +kernel
theorem dX9_joined_6 : decode cX9_joined 6 = .ok (.iload 4, 2) := by decide +kernel
theorem dX9_joined_8 : decode cX9_joined 8 = .ok (.ifCond .gt 7, 3) := by decide +kernel
theorem dX9_joined_11 : decode cX9_joined 11 = .ok (.lload_n 0, 1) := by decide +kernel
theorem dX9_joined_12 : decode cX9_joined 12 = .ok (.goto 23, 3) := by decide +kernel
theorem dX9_joined_15 : decode cX9_joined 15 = .ok (.lload_n 0, 1) := by decide +kernel
theorem dX9_joined_16 : decode cX9_joined 16 = .ok (.iconst 2, 1) := by decide +kernel
theorem dX9_joined_17 : decode cX9_joined 17 = .ok (.iload 4, 2) := by decide +kernel
theorem dX9_joined_19 : decode cX9_joined 19 = .ok (.imul, 1) := by decide +kernel
theorem dX9_joined_20 : decode cX9_joined 20 = .ok (.lshl, 1) := by decide +kernel
theorem dX9_joined_21 : decode cX9_joined 21 = .ok (.lload_n 2, 1) := by decide +kernel
theorem dX9_joined_22 : decode cX9_joined 22 = .ok (.iload 4, 2) := by decide +kernel
theorem dX9_joined_24 : decode cX9_joined 24 = .ok (.invokestatic 15, 3) := by decide +kernel
theorem dX9_joined_27 : decode cX9_joined 27 = .ok (.ladd, 1) := by decide +kernel
theorem dX9_joined_28 : decode cX9_joined 28 = .ok (.lconst 1, 1) := by decide +kernel
theorem dX9_joined_29 : decode cX9_joined 29 = .ok (.iconst 2, 1) := by decide +kernel
theorem dX9_joined_30 : decode cX9_joined 30 = .ok (.iload 4, 2) := by decide +kernel
theorem dX9_joined_32 : decode cX9_joined 32 = .ok (.imul, 1) := by decide +kernel
theorem dX9_joined_33 : decode cX9_joined 33 = .ok (.lshl, 1) := by decide +kernel
theorem dX9_joined_34 : decode cX9_joined 34 = .ok (.lsub, 1) := by decide +kernel
theorem dX9_joined_35 : decode cX9_joined 35 = .ok (.lreturn, 1) := by decide +kernel
def f_Words_joined (x0 : Int64) (x2 : Int64) (I : MI) (J : MJ) (Q : Int64 → MI → MJ → Prop) : Prop :=
  f_Words_lengthOf x2 I J (fun r1 I1 J1 => (if 0 < r1 then f_Words_lastSigns x2 r1 I1 J1 (fun r24 I24 J24 => Q (((x0 <<< ((2 * r1).toInt64 &&& 63)) + r24) - ((1 : Int64) <<< ((2 * r1).toInt64 &&& 63))) I24 J24) else Q x0 I1 J1))
set_option maxRecDepth 100000 in
set_option maxHeartbeats 4000000 in
theorem w_Words_joined_b0 {Γ : Ctx} {Q : Int64 → MI → MJ → Prop} {x0 : Int64} {x2 : Int64}  (X : Cx Γ cX9_joined 5 RX9 1) (Y : Rt Γ (Pl Q) (Option.some Jvm.ClassFile.FieldType.long))   {I : MI} {J : MJ} (h : f_Words_joined x0 x2 I J Q) : Wp Γ 5 0 [(0, .long x0), (2, .long x2)] [] I J := by
  unfold f_Words_joined at h
  refine wp_lload_n X dX9_joined_0 1 rfl ?_
  refine cs_Words_lengthOf X dX9_joined_1 ml_X9_9  h (Nat.le_of_ble_eq_true rfl) (by decide) (fun r1 I1 J1 h => ?_)
  refine wp_istore (L' := [(4, .int r1), (0, .long x0), (2, .long x2)]) X dX9_joined_4 (by decide) rfl ?_
  refine wp_iload X dX9_joined_6 0 rfl ?_
  refine wp_if_gt (tgt := 15) X dX9_joined_8 (by decide) (fun hc => ?_) (fun hc => ?_)
  · have h := ite_t h hc
    refine wp_lload_n X dX9_joined_15 1 rfl ?_
    refine wp_iconst X dX9_joined_16 ic_2 ?_
    refine wp_iload X dX9_joined_17 0 rfl ?_
    refine wp_imul X dX9_joined_19 ?_
    refine wp_lshl X dX9_joined_20 ?_
    refine wp_lload_n X dX9_joined_21 2 rfl ?_
    refine wp_iload X dX9_joined_22 0 rfl ?_
    refine cs_Words_lastSigns X dX9_joined_24 ml_X9_15  h (Nat.le_of_ble_eq_true rfl) (by decide) (fun r24 I24 J24 h => ?_)
    refine wp_ladd X dX9_joined_27 ?_
    refine wp_lconst X dX9_joined_28 lc_1 ?_
    refine wp_iconst X dX9_joined_29 ic_2 ?_
    refine wp_iload X dX9_joined_30 0 rfl ?_
    refine wp_imul X dX9_joined_32 ?_
    refine wp_lshl X dX9_joined_33 ?_
    refine wp_lsub X dX9_joined_34 ?_
    exact wp_lret X Y dX9_joined_35 ⟨_, rfl, h⟩
  · have h := ite_f h hc
    refine wp_lload_n X dX9_joined_11 1 rfl ?_
    refine wp_goto (tgt := 35) X dX9_joined_12 (by decide) ?_
    exact wp_lret X Y dX9_joined_35 ⟨_, rfl, h⟩

theorem c_Words_joined {l : Launch} {g : GE} (hg : Inj g) {I : MI} {J : MJ} {Q : Int64 → MI → MJ → Prop} {x0 : Int64} {x2 : Int64}  (h : f_Words_joined x0 x2 I J Q) : Cm l g yX9_joined cX9_joined 5 (Option.some Jvm.ClassFile.FieldType.long) 1 [.long x0, .long x2] I J (Pl Q) := by
  refine Cm.of (As := fun ad => [.long x0, .long x2]) hg pn_X9 (Nat.le_of_ble_eq_true rfl) ?_
  exact (fun Γ _ _ X Y => w_Words_joined_b0 X Y  h)
theorem cs_Words_joined {Γ : Ctx} {cc : ByteArray} {nL d pc index : Nat} {own : String} {L : List (Nat × Value)} {rest : List Value} {I : MI} {J : MJ} {Q : Int64 → MI → MJ → Prop} {x0 : Int64} {x2 : Int64} (X : Cx Γ cc nL own d) (hd : decode cc pc = .ok (.invokestatic index, 3)) (hlink : Cond.methodLink own index yX9_joined ∈ TT)  (h : f_Words_joined x0 x2 I J Q) (hrest : (rest.map fun v => v.category).sum ≤ 8) (hdd : 1 + 1 ≤ d) (kk : ∀ (r : Int64) (I' : MI) (J' : MJ), Q r I' J' → Wp Γ nL (pc + 3) L (.long r :: rest) I' J') : Wp Γ nL pc L (.long x2 :: .long x0 :: rest) I J :=
  wp_callS (As := [.long x0, .long x2]) (rest := rest) X hd hlink mv_X9_joined (c_Words_joined X.inj  h) rfl rfl hrest hdd (fun v I' J' hv => by obtain ⟨r, rfl, hq⟩ := hv; exact kk r I' J' hq)
theorem dX6_addHeads_0 : decode cX6_addHeads 0 = .ok (.iconst 0, 1) := by decide +kernel
theorem dX6_addHeads_1 : decode cX6_addHeads 1 = .ok (.istore_n 3, 1) := by decide +kernel
theorem dX6_addHeads_2 : decode cX6_addHeads 2 = .ok (.iload_n 3, 1) := by decide +kernel
theorem dX6_addHeads_3 : decode cX6_addHeads 3 = .ok (.aload_n 0, 1) := by decide +kernel
theorem dX6_addHeads_4 : decode cX6_addHeads 4 = .ok (.getfield 45, 3) := by decide +kernel
theorem dX6_addHeads_7 : decode cX6_addHeads 7 = .ok (.if_icmp .ge 23, 3) := by decide +kernel
theorem dX6_addHeads_10 : decode cX6_addHeads 10 = .ok (.aload_n 0, 1) := by decide +kernel
theorem dX6_addHeads_11 : decode cX6_addHeads 11 = .ok (.lload_n 1, 1) := by decide +kernel
theorem dX6_addHeads_12 : decode cX6_addHeads 12 = .ok (.aload_n 0, 1) := by decide +kernel
theorem dX6_addHeads_13 : decode cX6_addHeads 13 = .ok (.getfield 25, 3) := by decide +kernel
theorem dX6_addHeads_16 : decode cX6_addHeads 16 = .ok (.iload_n 3, 1) := by decide +kernel
theorem dX6_addHeads_17 : decode cX6_addHeads 17 = .ok (.laload, 1) := by decide +kernel
theorem dX6_addHeads_18 : decode cX6_addHeads 18 = .ok (.invokestatic 77, 3) := by decide +kernel
theorem dX6_addHeads_21 : decode cX6_addHeads 21 = .ok (.invokevirtual 66, 3) := by decide +kernel
theorem dX6_addHeads_24 : decode cX6_addHeads 24 = .ok (.iinc 3 1, 3) := by decide +kernel
theorem dX6_addHeads_27 : decode cX6_addHeads 27 = .ok (.goto (-25), 3) := by decide +kernel
theorem dX6_addHeads_30 : decode cX6_addHeads 30 = .ok (.return_, 1) := by decide +kernel
def f_Suite_addHeads_L2 (x1 : Int64) (k30 : MI → MJ → Prop) : Nat → Int32 → MI → MJ → Prop
  | 0, _, _, _ => False
  | nf2 + 1, x3, I, J =>
  (if (I 26 2) ≤ x3 then k30 I J else vp_in x3 13 ∧ f_Words_joined x1 (J 34 x3.toNatClampNeg) I J (fun r18 I18 J18 => f_Suite_addHead r18 I18 J18 (fun I21 J21 => ∀ t24 : Int32, t24 = x3 + 1 → f_Suite_addHeads_L2 x1 k30 nf2 t24 I21 J21)))
def f_Suite_addHeads (x1 : Int64) (I : MI) (J : MJ) (Q : MI → MJ → Prop) : Prop :=
  ∃ n, f_Suite_addHeads_L2 x1 (fun (I : MI) (J : MJ) => Q I J) n 0 I J
set_option maxRecDepth 100000 in
set_option maxHeartbeats 4000000 in
theorem w_Suite_addHeads_L2 {Γ : Ctx} {Q : MI → MJ → Prop} {x1 : Int64} {k30 : MI → MJ → Prop} (X : Cx Γ cX6_addHeads 4 RX6 2) (Y : Rt Γ (Pv Q) (Option.none : Option Jvm.ClassFile.FieldType))  (hk30 : ∀ (I : MI) (J : MJ), k30 I J → Wp Γ 4 30 [] [] I J) : ∀ (n : Nat) (x3 : Int32) (I : MI) (J : MJ), f_Suite_addHeads_L2 x1 k30 n x3 I J → Wp Γ 4 2 [(0, .ref (ad Γ 26)), (1, .long x1), (3, .int x3)] [] I J := by
  intro n
  induction n with
  | zero => intro x3 I J h; exact absurd h (by simp [f_Suite_addHeads_L2])
  | succ n ih =>
  intro x3 I J h
  unfold f_Suite_addHeads_L2 at h
  refine wp_iload_n X dX6_addHeads_2 2 rfl ?_
  refine wp_aload_n X dX6_addHeads_3 0 rfl ?_
  refine gf_X6_45 X sh_26 dX6_addHeads_4 ?_
  refine wp_icmp_ge (tgt := 30) X dX6_addHeads_7 (by decide) (fun hc => ?_) (fun hc => ?_)
  · have h := ite_t h hc
    refine wp_sub X [] rfl ?_
    exact hk30 _ _ h
  · have h := ite_f h hc
    refine wp_aload_n X dX6_addHeads_10 0 rfl ?_
    refine wp_lload_n X dX6_addHeads_11 1 rfl ?_
    refine wp_aload_n X dX6_addHeads_12 0 rfl ?_
    refine gf_X6_25 (o' := 34) X sh_26 rfl dX6_addHeads_13 ?_
    refine wp_iload_n X dX6_addHeads_16 2 rfl ?_
    obtain ⟨hb17, h⟩ := h
    refine wp_lald X sh_34 hb17 dX6_addHeads_17 ?_
    refine cs_Words_joined X dX6_addHeads_18 ml_X6_77  h (Nat.le_of_ble_eq_true rfl) (by decide) (fun r18 I18 J18 h => ?_)
    refine cv_Suite_addHead X dX6_addHeads_21 ml_X6_66  h (Nat.le_of_ble_eq_true rfl) (by decide) (fun I21 J21 h => ?_)
    obtain ⟨t24, et24⟩ : ∃ y : Int32, y = x3 + 1 := ⟨_, rfl⟩
    have h := h t24 et24
    refine wp_iinc (L' := [(3, .int t24), (0, .ref (ad Γ 26)), (1, .long x1)]) X dX6_addHeads_24 2 rfl (ii_1 et24) (by decide) rfl ?_
    refine wp_goto (tgt := 2) X dX6_addHeads_27 (by decide) ?_
    refine wp_sub X [1, 2, 0] rfl ?_
    exact ih _ _ _ h

set_option maxRecDepth 100000 in
set_option maxHeartbeats 4000000 in
theorem w_Suite_addHeads_b0 {Γ : Ctx} {Q : MI → MJ → Prop} {x1 : Int64}  (X : Cx Γ cX6_addHeads 4 RX6 2) (Y : Rt Γ (Pv Q) (Option.none : Option Jvm.ClassFile.FieldType))   {I : MI} {J : MJ} (h : f_Suite_addHeads x1 I J Q) : Wp Γ 4 0 [(0, .ref (ad Γ 26)), (1, .long x1)] [] I J := by
  unfold f_Suite_addHeads at h
  refine wp_iconst X dX6_addHeads_0 ic_0 ?_
  refine wp_istore_n (L' := [(3, .int 0), (0, .ref (ad Γ 26)), (1, .long x1)]) X dX6_addHeads_1 rfl (by decide) rfl ?_
  obtain ⟨n, h⟩ := h
  refine wp_sub X [1, 2, 0] rfl ?_
  refine w_Suite_addHeads_L2 X Y  ?_ n _ _ _ h
  · intro I J h
    exact wp_vret X Y dX6_addHeads_30 ⟨rfl, h⟩

theorem c_Suite_addHeads {l : Launch} {g : GE} (hg : Inj g) {I : MI} {J : MJ} {Q : MI → MJ → Prop} {x1 : Int64}  (h : f_Suite_addHeads x1 I J Q) : Cm l g yX6_addHeads cX6_addHeads 4 (Option.none : Option Jvm.ClassFile.FieldType) 2 [.ref (g.1 26), .long x1] I J (Pv Q) := by
  refine Cm.of (As := fun ad => [.ref (ad 26), .long x1]) hg pn_X6 (Nat.le_of_ble_eq_true rfl) ?_
  exact (fun Γ _ _ X Y => w_Suite_addHeads_b0 X Y  h)
theorem cv_Suite_addHeads {Γ : Ctx} {cc : ByteArray} {nL d pc index : Nat} {own : String} {L : List (Nat × Value)} {rest : List Value} {I : MI} {J : MJ} {Q : MI → MJ → Prop} {x1 : Int64} (X : Cx Γ cc nL own d) (hd : decode cc pc = .ok (.invokevirtual index, 3)) (hlink : Cond.methodLink own index yX6_addHeads ∈ TT)  (h : f_Suite_addHeads x1 I J Q) (hrest : (rest.map fun v => v.category).sum ≤ 8) (hdd : 2 + 1 ≤ d) (kk : ∀ (I' : MI) (J' : MJ), Q I' J' → Wp Γ nL (pc + 3) L rest I' J') : Wp Γ nL pc L (.long x1 :: .ref (ad Γ 26) :: rest) I J :=
  wp_callV (As := [.long x1]) (rest := rest) (T := TX6) (N := 9) X hd hlink mv_X6_addHeads sh_26 (by decide) rfl (c_Suite_addHeads X.inj  h) rfl rfl hrest hdd (fun v I' J' hv => by obtain ⟨rfl, hq⟩ := hv; exact kk I' J' hq)
theorem dX6_gatherHeads_0 : decode cX6_gatherHeads 0 = .ok (.aload_n 0, 1) := by decide +kernel
theorem dX6_gatherHeads_1 : decode cX6_gatherHeads 1 = .ok (.iconst 0, 1) := by decide +kernel
theorem dX6_gatherHeads_2 : decode cX6_gatherHeads 2 = .ok (.putfield 60, 3) := by decide +kernel
theorem dX6_gatherHeads_5 : decode cX6_gatherHeads 5 = .ok (.aload_n 0, 1) := by decide +kernel
theorem dX6_gatherHeads_6 : decode cX6_gatherHeads 6 = .ok (.getfield 18, 3) := by decide +kernel
theorem dX6_gatherHeads_9 : decode cX6_gatherHeads 9 = .ok (.iconst 0, 1) := by decide +kernel
theorem dX6_gatherHeads_10 : decode cX6_gatherHeads 10 = .ok (.lconst 1, 1) := by decide +kernel
theorem dX6_gatherHeads_11 : decode cX6_gatherHeads 11 = .ok (.lastore, 1) := by decide +kernel
theorem dX6_gatherHeads_12 : decode cX6_gatherHeads 12 = .ok (.iconst 1, 1) := by decide +kernel
theorem dX6_gatherHeads_13 : decode cX6_gatherHeads 13 = .ok (.istore_n 1, 1) := by decide +kernel
theorem dX6_gatherHeads_14 : decode cX6_gatherHeads 14 = .ok (.iconst 0, 1) := by decide +kernel
theorem dX6_gatherHeads_15 : decode cX6_gatherHeads 15 = .ok (.istore_n 2, 1) := by decide +kernel
theorem dX6_gatherHeads_16 : decode cX6_gatherHeads 16 = .ok (.iload_n 2, 1) := by decide +kernel
theorem dX6_gatherHeads_17 : decode cX6_gatherHeads 17 = .ok (.aload_n 0, 1) := by decide +kernel
theorem dX6_gatherHeads_18 : decode cX6_gatherHeads 18 = .ok (.getfield 12, 3) := by decide +kernel
theorem dX6_gatherHeads_21 : decode cX6_gatherHeads 21 = .ok (.getfield 63, 3) := by decide +kernel
theorem dX6_gatherHeads_24 : decode cX6_gatherHeads 24 = .ok (.if_icmp .ge 98, 3) := by decide +kernel
theorem dX6_gatherHeads_27 : decode cX6_gatherHeads 27 = .ok (.iload_n 2, 1) := by decide +kernel
theorem dX6_gatherHeads_28 : decode cX6_gatherHeads 28 = .ok (.bipush 6, 2) := by decide +kernel
theorem dX6_gatherHeads_30 : decode cX6_gatherHeads 30 = .ok (.if_icmp .ge 92, 3) := by decide +kernel
theorem dX6_gatherHeads_33 : decode cX6_gatherHeads 33 = .ok (.aload_n 0, 1) := by decide +kernel
theorem dX6_gatherHeads_34 : decode cX6_gatherHeads 34 = .ok (.aload_n 0, 1) := by decide +kernel
theorem dX6_gatherHeads_35 : decode cX6_gatherHeads 35 = .ok (.getfield 18, 3) := by decide +kernel
theorem dX6_gatherHeads_38 : decode cX6_gatherHeads 38 = .ok (.iload_n 2, 1) := by decide +kernel
theorem dX6_gatherHeads_39 : decode cX6_gatherHeads 39 = .ok (.laload, 1) := by decide +kernel
theorem dX6_gatherHeads_40 : decode cX6_gatherHeads 40 = .ok (.invokevirtual 66, 3) := by decide +kernel
theorem dX6_gatherHeads_43 : decode cX6_gatherHeads 43 = .ok (.iconst 0, 1) := by decide +kernel
theorem dX6_gatherHeads_44 : decode cX6_gatherHeads 44 = .ok (.istore_n 3, 1) := by decide +kernel
theorem dX6_gatherHeads_45 : decode cX6_gatherHeads 45 = .ok (.iload_n 3, 1) := by decide +kernel
theorem dX6_gatherHeads_46 : decode cX6_gatherHeads 46 = .ok (.aload_n 0, 1) := by decide +kernel
theorem dX6_gatherHeads_47 : decode cX6_gatherHeads 47 = .ok (.getfield 12, 3) := by decide +kernel
theorem dX6_gatherHeads_50 : decode cX6_gatherHeads 50 = .ok (.getfield 55, 3) := by decide +kernel
theorem dX6_gatherHeads_53 : decode cX6_gatherHeads 53 = .ok (.if_icmp .ge 63, 3) := by decide +kernel
theorem dX6_gatherHeads_56 : decode cX6_gatherHeads 56 = .ok (.ldc2_w 58, 3) := by decide +kernel
theorem dX6_gatherHeads_59 : decode cX6_gatherHeads 59 = .ok (.aload_n 0, 1) := by decide +kernel
theorem dX6_gatherHeads_60 : decode cX6_gatherHeads 60 = .ok (.getfield 18, 3) := by decide +kernel
theorem dX6_gatherHeads_63 : decode cX6_gatherHeads 63 = .ok (.iload_n 2, 1) := by decide +kernel
theorem dX6_gatherHeads_64 : decode cX6_gatherHeads 64 = .ok (.laload, 1) := by decide +kernel
theorem dX6_gatherHeads_65 : decode cX6_gatherHeads 65 = .ok (.lmul, 1) := by decide +kernel
theorem dX6_gatherHeads_66 : decode cX6_gatherHeads 66 = .ok (.iload_n 3, 1) := by decide +kernel
theorem dX6_gatherHeads_67 : decode cX6_gatherHeads 67 = .ok (.i2l, 1) := by decide +kernel
theorem dX6_gatherHeads_68 : decode cX6_gatherHeads 68 = .ok (.ladd, 1) := by decide +kernel
theorem dX6_gatherHeads_69 : decode cX6_gatherHeads 69 = .ok (.lstore 4, 2) := by decide +kernel
theorem dX6_gatherHeads_71 : decode cX6_gatherHeads 71 = .ok (.iload_n 1, 1) := by decide +kernel
theorem dX6_gatherHeads_72 : decode cX6_gatherHeads 72 = .ok (.bipush 6, 2) := by decide +kernel
theorem dX6_gatherHeads_74 : decode cX6_gatherHeads 74 = .ok (.if_icmp .ge 30, 3) := by decide +kernel
theorem dX6_gatherHeads_77 : decode cX6_gatherHeads 77 = .ok (.aload_n 0, 1) := by decide +kernel
theorem dX6_gatherHeads_78 : decode cX6_gatherHeads 78 = .ok (.getfield 12, 3) := by decide +kernel
theorem dX6_gatherHeads_81 : decode cX6_gatherHeads 81 = .ok (.iload_n 2, 1) := by decide +kernel
theorem dX6_gatherHeads_82 : decode cX6_gatherHeads 82 = .ok (.iload_n 3, 1) := by decide +kernel
theorem dX6_gatherHeads_83 : decode cX6_gatherHeads 83 = .ok (.invokevirtual 70, 3) := by decide +kernel
theorem dX6_gatherHeads_86 : decode cX6_gatherHeads 86 = .ok (.iload_n 1, 1) := by decide +kernel
theorem dX6_gatherHeads_87 : decode cX6_gatherHeads 87 = .ok (.if_icmp .ne 17, 3) := by decide +kernel
theorem dX6_gatherHeads_90 : decode cX6_gatherHeads 90 = .ok (.aload_n 0, 1) := by decide +kernel
theorem dX6_gatherHeads_91 : decode cX6_gatherHeads 91 = .ok (.getfield 18, 3) := by decide +kernel
theorem dX6_gatherHeads_94 : decode cX6_gatherHeads 94 = .ok (.iload_n 1, 1) := by decide +kernel
theorem dX6_gatherHeads_95 : decode cX6_gatherHeads 95 = .ok (.lload 4, 2) := by decide +kernel
theorem dX6_gatherHeads_97 : decode cX6_gatherHeads 97 = .ok (.lastore, 1) := by decide +kernel
theorem dX6_gatherHeads_98 : decode cX6_gatherHeads 98 = .ok (.iinc 1 1, 3) := by decide +kernel
theorem dX6_gatherHeads_101 : decode cX6_gatherHeads 101 = .ok (.goto 9, 3) := by decide +kernel
theorem dX6_gatherHeads_104 : decode cX6_gatherHeads 104 = .ok (.aload_n 0, 1) := by decide +kernel
theorem dX6_gatherHeads_105 : decode cX6_gatherHeads 105 = .ok (.lload 4, 2) := by decide +kernel
theorem dX6_gatherHeads_107 : decode cX6_gatherHeads 107 = .ok (.invokevirtual 74, 3) := by decide +kernel
theorem dX6_gatherHeads_110 : decode cX6_gatherHeads 110 = .ok (.iinc 3 1, 3) := by decide +kernel
theorem dX6_gatherHeads_113 : decode cX6_gatherHeads 113 = .ok (.goto (-68), 3) := by decide +kernel
theorem dX6_gatherHeads_116 : decode cX6_gatherHeads 116 = .ok (.iinc 2 1, 3) := by decide +kernel
theorem dX6_gatherHeads_119 : decode cX6_gatherHeads 119 = .ok (.goto (-103), 3) := by decide +kernel
theorem dX6_gatherHeads_122 : decode cX6_gatherHeads 122 = .ok (.return_, 1) := by decide +kernel
def f_Suite_gatherHeads_b110 (x1 : Int32) (x3 : Int32) (kh : Int32 → Int32 → MI → MJ → Prop) (I : MI) (J : MJ) : Prop :=
  ∀ t110 : Int32, t110 = x3 + 1 → kh x1 t110 I J
def f_Suite_gatherHeads_b104 (x1 : Int32) (x3 : Int32) (x4 : Int64) (kh : Int32 → Int32 → MI → MJ → Prop) (I : MI) (J : MJ) : Prop :=
  f_Suite_addHeads x4 I J (fun I107 J107 => f_Suite_gatherHeads_b110 x1 x3 kh I107 J107)
def f_Suite_gatherHeads_L45 (x2 : Int32) (k116 : Int32 → MI → MJ → Prop) : Nat → Int32 → Int32 → MI → MJ → Prop
  | 0, _, _, _, _ => False
  | nf45 + 1, x1, x3, I, J =>
  (if (I 27 2) ≤ x3 then k116 x1 I J else vp_in x2 6 ∧ ∀ t69 : Int64, t69 = (4 * (J 32 x2.toNatClampNeg)) + x3.toInt64 → (if 6 ≤ x1 then f_Suite_gatherHeads_b104 x1 x3 t69 (f_Suite_gatherHeads_L45 x2 k116 nf45) I J else f_Machine_leadOf 27 x2 x3 I J (fun r83 I83 J83 => (if r83 = x1 then vp_in x1 6 ∧ ∀ J97 : MJ, J97 = sJ J83 32 (vp_updL (J83 32) x1.toNatClampNeg t69) → ∀ t98 : Int32, t98 = x1 + 1 → f_Suite_gatherHeads_b110 t98 x3 (f_Suite_gatherHeads_L45 x2 k116 nf45) I83 J97 else f_Suite_gatherHeads_b104 x1 x3 t69 (f_Suite_gatherHeads_L45 x2 k116 nf45) I83 J83))))
def f_Suite_gatherHeads_L16 (k122 : MI → MJ → Prop) : Nat → Int32 → Int32 → MI → MJ → Prop
  | 0, _, _, _, _ => False
  | nf16 + 1, x1, x2, I, J =>
  (if (I 27 1) ≤ x2 then k122 I J else (if 6 ≤ x2 then k122 I J else vp_in x2 6 ∧ f_Suite_addHead (J 32 x2.toNatClampNeg) I J (fun I40 J40 => ∃ n, f_Suite_gatherHeads_L45 x2 (fun (z116_x1 : Int32) (I : MI) (J : MJ) => ∀ t116 : Int32, t116 = x2 + 1 → f_Suite_gatherHeads_L16 k122 nf16 z116_x1 t116 I J) n x1 0 I40 J40)))
def f_Suite_gatherHeads (I : MI) (J : MJ) (Q : MI → MJ → Prop) : Prop :=
  ∀ I2 : MI, I2 = sI I 26 (upd (I 26) 1 0) → vp_in 0 6 ∧ ∀ J11 : MJ, J11 = sJ J 32 (vp_updL (J 32) (0 : Int32).toNatClampNeg 1) → ∃ n, f_Suite_gatherHeads_L16 (fun (I : MI) (J : MJ) => Q I J) n 1 0 I2 J11
set_option maxRecDepth 100000 in
set_option maxHeartbeats 4000000 in
theorem w_Suite_gatherHeads_b110 {Γ : Ctx} {Q : MI → MJ → Prop} {x1 : Int32} {x2 : Int32} {x3 : Int32} {kh : Int32 → Int32 → MI → MJ → Prop} (X : Cx Γ cX6_gatherHeads 6 RX6 3) (Y : Rt Γ (Pv Q) (Option.none : Option Jvm.ClassFile.FieldType))  (hkh : ∀ (x1 : Int32) (x3 : Int32) (I : MI) (J : MJ), kh x1 x3 I J → Wp Γ 6 45 [(0, .ref (ad Γ 26)), (1, .int x1), (2, .int x2), (3, .int x3)] [] I J) {I : MI} {J : MJ} (h : f_Suite_gatherHeads_b110 x1 x3 kh I J) : Wp Γ 6 110 [(0, .ref (ad Γ 26)), (1, .int x1), (2, .int x2), (3, .int x3)] [] I J := by
  unfold f_Suite_gatherHeads_b110 at h
  obtain ⟨t110, et110⟩ : ∃ y : Int32, y = x3 + 1 := ⟨_, rfl⟩
  have h := h t110 et110
  refine wp_iinc (L' := [(3, .int t110), (0, .ref (ad Γ 26)), (1, .int x1), (2, .int x2)]) X dX6_gatherHeads_110 3 rfl (ii_1 et110) (by decide) rfl ?_
  refine wp_goto (tgt := 45) X dX6_gatherHeads_113 (by decide) ?_
  refine wp_sub X [1, 2, 3, 0] rfl ?_
  exact hkh _ _ _ _ h

set_option maxRecDepth 100000 in
set_option maxHeartbeats 4000000 in
theorem w_Suite_gatherHeads_b104 {Γ : Ctx} {Q : MI → MJ → Prop} {x1 : Int32} {x2 : Int32} {x3 : Int32} {x4 : Int64} {kh : Int32 → Int32 → MI → MJ → Prop} (X : Cx Γ cX6_gatherHeads 6 RX6 3) (Y : Rt Γ (Pv Q) (Option.none : Option Jvm.ClassFile.FieldType))  (hkh : ∀ (x1 : Int32) (x3 : Int32) (I : MI) (J : MJ), kh x1 x3 I J → Wp Γ 6 45 [(0, .ref (ad Γ 26)), (1, .int x1), (2, .int x2), (3, .int x3)] [] I J) {I : MI} {J : MJ} (h : f_Suite_gatherHeads_b104 x1 x3 x4 kh I J) : Wp Γ 6 104 [(0, .ref (ad Γ 26)), (1, .int x1), (2, .int x2), (3, .int x3), (4, .long x4)] [] I J := by
  unfold f_Suite_gatherHeads_b104 at h
  refine wp_aload_n X dX6_gatherHeads_104 0 rfl ?_
  refine wp_lload X dX6_gatherHeads_105 4 rfl ?_
  refine cv_Suite_addHeads X dX6_gatherHeads_107 ml_X6_74  h (Nat.le_of_ble_eq_true rfl) (by decide) (fun I107 J107 h => ?_)
  refine wp_sub X [0, 1, 2, 3] rfl ?_
  exact w_Suite_gatherHeads_b110 X Y hkh h

set_option maxRecDepth 100000 in
set_option maxHeartbeats 4000000 in
theorem w_Suite_gatherHeads_L45 {Γ : Ctx} {Q : MI → MJ → Prop} {x2 : Int32} {k116 : Int32 → MI → MJ → Prop} (X : Cx Γ cX6_gatherHeads 6 RX6 3) (Y : Rt Γ (Pv Q) (Option.none : Option Jvm.ClassFile.FieldType))  (hk116 : ∀ (x1 : Int32) (I : MI) (J : MJ), k116 x1 I J → Wp Γ 6 116 [(0, .ref (ad Γ 26)), (1, .int x1), (2, .int x2)] [] I J) : ∀ (n : Nat) (x1 : Int32) (x3 : Int32) (I : MI) (J : MJ), f_Suite_gatherHeads_L45 x2 k116 n x1 x3 I J → Wp Γ 6 45 [(0, .ref (ad Γ 26)), (1, .int x1), (2, .int x2), (3, .int x3)] [] I J := by
  intro n
  induction n with
  | zero => intro x1 x3 I J h; exact absurd h (by simp [f_Suite_gatherHeads_L45])
  | succ n ih =>
  intro x1 x3 I J h
  unfold f_Suite_gatherHeads_L45 at h
  refine wp_iload_n X dX6_gatherHeads_45 3 rfl ?_
  refine wp_aload_n X dX6_gatherHeads_46 0 rfl ?_
  refine gf_X6_12 (o' := 27) X sh_26 rfl dX6_gatherHeads_47 ?_
  refine gf_X6_55 X okM_27.1 dX6_gatherHeads_50 ?_
  refine wp_icmp_ge (tgt := 116) X dX6_gatherHeads_53 (by decide) (fun hc => ?_) (fun hc => ?_)
  · have h := ite_t h hc
    refine wp_sub X [0, 1, 2] rfl ?_
    exact hk116 _ _ _ h
  · have h := ite_f h hc
    refine wp_ldc2 X kl_X6_58 dX6_gatherHeads_56 ?_
    refine wp_aload_n X dX6_gatherHeads_59 0 rfl ?_
    refine gf_X6_18 (o' := 32) X sh_26 rfl dX6_gatherHeads_60 ?_
    refine wp_iload_n X dX6_gatherHeads_63 2 rfl ?_
    obtain ⟨hb64, h⟩ := h
    refine wp_lald X sh_32 hb64 dX6_gatherHeads_64 ?_
    refine wp_lmul X dX6_gatherHeads_65 ?_
    refine wp_iload_n X dX6_gatherHeads_66 3 rfl ?_
    refine wp_i2l X dX6_gatherHeads_67 ?_
    refine wp_ladd X dX6_gatherHeads_68 ?_
    refine wp_topl (fun t69 et69 => ?_)
    have h := h t69 et69
    refine wp_lstore (L' := [(4, .long t69), (0, .ref (ad Γ 26)), (1, .int x1), (2, .int x2), (3, .int x3)]) X dX6_gatherHeads_69 (by decide) rfl ?_
    refine wp_iload_n X dX6_gatherHeads_71 2 rfl ?_
    refine wp_bipush X dX6_gatherHeads_72 bi_6 ?_
    refine wp_icmp_ge (tgt := 104) X dX6_gatherHeads_74 (by decide) (fun hc => ?_) (fun hc => ?_)
    · have h := ite_t h hc
      refine wp_sub X [1, 2, 3, 4, 0] rfl ?_
      exact w_Suite_gatherHeads_b104 X Y ih h
    · have h := ite_f h hc
      refine wp_aload_n X dX6_gatherHeads_77 1 rfl ?_
      refine gf_X6_12 (o' := 27) X sh_26 rfl dX6_gatherHeads_78 ?_
      refine wp_iload_n X dX6_gatherHeads_81 3 rfl ?_
      refine wp_iload_n X dX6_gatherHeads_82 4 rfl ?_
      refine cv_Machine_leadOf X dX6_gatherHeads_83 ml_X6_70 okM_27 h (Nat.le_of_ble_eq_true rfl) (by decide) (fun r83 I83 J83 h => ?_)
      refine wp_iload_n X dX6_gatherHeads_86 2 rfl ?_
      refine wp_icmp_ne (tgt := 104) X dX6_gatherHeads_87 (by decide) (fun hc => ?_) (fun hc => ?_)
      · have h := ite_f h hc
        refine wp_sub X [1, 2, 3, 4, 0] rfl ?_
        exact w_Suite_gatherHeads_b104 X Y ih h
      · have h := ite_t h hc
        refine wp_aload_n X dX6_gatherHeads_90 1 rfl ?_
        refine gf_X6_18 (o' := 32) X sh_26 rfl dX6_gatherHeads_91 ?_
        refine wp_iload_n X dX6_gatherHeads_94 2 rfl ?_
        refine wp_lload X dX6_gatherHeads_95 0 rfl ?_
        obtain ⟨hb97, h⟩ := h
        refine wp_last X sh_32 hb97 dX6_gatherHeads_97 ?_
        refine wp_memJ (fun J97 eJ97 => ?_)
        have h := h J97 eJ97
        obtain ⟨t98, et98⟩ : ∃ y : Int32, y = x1 + 1 := ⟨_, rfl⟩
        have h := h t98 et98
        refine wp_iinc (L' := [(1, .int t98), (4, .long t69), (0, .ref (ad Γ 26)), (2, .int x2), (3, .int x3)]) X dX6_gatherHeads_98 2 rfl (ii_1 et98) (by decide) rfl ?_
        refine wp_goto (tgt := 110) X dX6_gatherHeads_101 (by decide) ?_
        refine wp_sub X [2, 0, 3, 4] rfl ?_
        exact w_Suite_gatherHeads_b110 X Y ih h

set_option maxRecDepth 100000 in
set_option maxHeartbeats 4000000 in
theorem w_Suite_gatherHeads_L16 {Γ : Ctx} {Q : MI → MJ → Prop}  {k122 : MI → MJ → Prop} (X : Cx Γ cX6_gatherHeads 6 RX6 3) (Y : Rt Γ (Pv Q) (Option.none : Option Jvm.ClassFile.FieldType))  (hk122 : ∀ (I : MI) (J : MJ), k122 I J → Wp Γ 6 122 [] [] I J) : ∀ (n : Nat) (x1 : Int32) (x2 : Int32) (I : MI) (J : MJ), f_Suite_gatherHeads_L16 k122 n x1 x2 I J → Wp Γ 6 16 [(0, .ref (ad Γ 26)), (1, .int x1), (2, .int x2)] [] I J := by
  intro n
  induction n with
  | zero => intro x1 x2 I J h; exact absurd h (by simp [f_Suite_gatherHeads_L16])
  | succ n ih =>
  intro x1 x2 I J h
  unfold f_Suite_gatherHeads_L16 at h
  refine wp_iload_n X dX6_gatherHeads_16 2 rfl ?_
  refine wp_aload_n X dX6_gatherHeads_17 0 rfl ?_
  refine gf_X6_12 (o' := 27) X sh_26 rfl dX6_gatherHeads_18 ?_
  refine gf_X6_63 X okM_27.1 dX6_gatherHeads_21 ?_
  refine wp_icmp_ge (tgt := 122) X dX6_gatherHeads_24 (by decide) (fun hc => ?_) (fun hc => ?_)
  · have h := ite_t h hc
    refine wp_sub X [] rfl ?_
    exact hk122 _ _ h
  · have h := ite_f h hc
    refine wp_iload_n X dX6_gatherHeads_27 2 rfl ?_
    refine wp_bipush X dX6_gatherHeads_28 bi_6 ?_
    refine wp_icmp_ge (tgt := 122) X dX6_gatherHeads_30 (by decide) (fun hc => ?_) (fun hc => ?_)
    · have h := ite_t h hc
      refine wp_sub X [] rfl ?_
      exact hk122 _ _ h
    · have h := ite_f h hc
      refine wp_aload_n X dX6_gatherHeads_33 0 rfl ?_
      refine wp_aload_n X dX6_gatherHeads_34 0 rfl ?_
      refine gf_X6_18 (o' := 32) X sh_26 rfl dX6_gatherHeads_35 ?_
      refine wp_iload_n X dX6_gatherHeads_38 2 rfl ?_
      obtain ⟨hb39, h⟩ := h
      refine wp_lald X sh_32 hb39 dX6_gatherHeads_39 ?_
      refine cv_Suite_addHead X dX6_gatherHeads_40 ml_X6_66  h (Nat.le_of_ble_eq_true rfl) (by decide) (fun I40 J40 h => ?_)
      refine wp_iconst X dX6_gatherHeads_43 ic_0 ?_
      refine wp_istore_n (L' := [(3, .int 0), (0, .ref (ad Γ 26)), (1, .int x1), (2, .int x2)]) X dX6_gatherHeads_44 rfl (by decide) rfl ?_
      obtain ⟨n, h⟩ := h
      refine wp_sub X [1, 2, 3, 0] rfl ?_
      refine w_Suite_gatherHeads_L45 X Y  ?_ n _ _ _ _ h
      · intro z116_x1 I J h
        obtain ⟨t116, et116⟩ : ∃ y : Int32, y = x2 + 1 := ⟨_, rfl⟩
        have h := h t116 et116
        refine wp_iinc (L' := [(2, .int t116), (0, .ref (ad Γ 26)), (1, .int z116_x1)]) X dX6_gatherHeads_116 2 rfl (ii_1 et116) (by decide) rfl ?_
        refine wp_goto (tgt := 16) X dX6_gatherHeads_119 (by decide) ?_
        refine wp_sub X [1, 2, 0] rfl ?_
        exact ih _ _ _ _ h

set_option maxRecDepth 100000 in
set_option maxHeartbeats 4000000 in
theorem w_Suite_gatherHeads_b0 {Γ : Ctx} {Q : MI → MJ → Prop}   (X : Cx Γ cX6_gatherHeads 6 RX6 3) (Y : Rt Γ (Pv Q) (Option.none : Option Jvm.ClassFile.FieldType))   {I : MI} {J : MJ} (h : f_Suite_gatherHeads  I J Q) : Wp Γ 6 0 [(0, .ref (ad Γ 26))] [] I J := by
  unfold f_Suite_gatherHeads at h
  refine wp_aload_n X dX6_gatherHeads_0 0 rfl ?_
  refine wp_iconst X dX6_gatherHeads_1 ic_0 ?_
  refine pf_X6_60 X sh_26 dX6_gatherHeads_2 (fun I2 eI2 => ?_)
  have h := h I2 eI2
  refine wp_aload_n X dX6_gatherHeads_5 0 rfl ?_
  refine gf_X6_18 (o' := 32) X sh_26 rfl dX6_gatherHeads_6 ?_
  refine wp_iconst X dX6_gatherHeads_9 ic_0 ?_
  refine wp_lconst X dX6_gatherHeads_10 lc_1 ?_
  obtain ⟨hb11, h⟩ := h
  refine wp_last X sh_32 hb11 dX6_gatherHeads_11 ?_
  refine wp_memJ (fun J11 eJ11 => ?_)
  have h := h J11 eJ11
  refine wp_iconst X dX6_gatherHeads_12 ic_1 ?_
  refine wp_istore_n (L' := [(1, .int 1), (0, .ref (ad Γ 26))]) X dX6_gatherHeads_13 rfl (by decide) rfl ?_
  refine wp_iconst X dX6_gatherHeads_14 ic_0 ?_
  refine wp_istore_n (L' := [(2, .int 0), (1, .int 1), (0, .ref (ad Γ 26))]) X dX6_gatherHeads_15 rfl (by decide) rfl ?_
  obtain ⟨n, h⟩ := h
  refine wp_sub X [2, 1, 0] rfl ?_
  refine w_Suite_gatherHeads_L16 X Y  ?_ n _ _ _ _ h
  · intro I J h
    exact wp_vret X Y dX6_gatherHeads_122 ⟨rfl, h⟩

theorem c_Suite_gatherHeads {l : Launch} {g : GE} (hg : Inj g) {I : MI} {J : MJ} {Q : MI → MJ → Prop}   (h : f_Suite_gatherHeads  I J Q) : Cm l g yX6_gatherHeads cX6_gatherHeads 6 (Option.none : Option Jvm.ClassFile.FieldType) 3 [.ref (g.1 26)] I J (Pv Q) := by
  refine Cm.of (As := fun ad => [.ref (ad 26)]) hg pn_X6 (Nat.le_of_ble_eq_true rfl) ?_
  exact (fun Γ _ _ X Y => w_Suite_gatherHeads_b0 X Y  h)
theorem cv_Suite_gatherHeads {Γ : Ctx} {cc : ByteArray} {nL d pc index : Nat} {own : String} {L : List (Nat × Value)} {rest : List Value} {I : MI} {J : MJ} {Q : MI → MJ → Prop}  (X : Cx Γ cc nL own d) (hd : decode cc pc = .ok (.invokevirtual index, 3)) (hlink : Cond.methodLink own index yX6_gatherHeads ∈ TT)  (h : f_Suite_gatherHeads  I J Q) (hrest : (rest.map fun v => v.category).sum ≤ 8) (hdd : 3 + 1 ≤ d) (kk : ∀ (I' : MI) (J' : MJ), Q I' J' → Wp Γ nL (pc + 3) L rest I' J') : Wp Γ nL pc L (.ref (ad Γ 26) :: rest) I J :=
  wp_callV (As := []) (rest := rest) (T := TX6) (N := 9) X hd hlink mv_X6_gatherHeads sh_26 (by decide) rfl (c_Suite_gatherHeads X.inj  h) rfl rfl hrest hdd (fun v I' J' hv => by obtain ⟨rfl, hq⟩ := hv; exact kk I' J' hq)
theorem dX6_addLast_0 : decode cX6_addLast 0 = .ok (.iconst 0, 1) := by decide +kernel
theorem dX6_addLast_1 : decode cX6_addLast 1 = .ok (.istore_n 3, 1) := by decide +kernel
theorem dX6_addLast_2 : decode cX6_addLast 2 = .ok (.iload_n 3, 1) := by decide +kernel
theorem dX6_addLast_3 : decode cX6_addLast 3 = .ok (.aload_n 0, 1) := by decide +kernel
theorem dX6_addLast_4 : decode cX6_addLast 4 = .ok (.getfield 81, 3) := by decide +kernel
theorem dX6_addLast_7 : decode cX6_addLast 7 = .ok (.if_icmp .ge 21, 3) := by decide +kernel
theorem dX6_addLast_10 : decode cX6_addLast 10 = .ok (.aload_n 0, 1) := by decide +kernel
theorem dX6_addLast_11 : decode cX6_addLast 11 = .ok (.getfield 28, 3) := by decide +kernel
theorem dX6_addLast_14 : decode cX6_addLast 14 = .ok (.iload_n 3, 1) := by decide +kernel
theorem dX6_addLast_15 : decode cX6_addLast 15 = .ok (.laload, 1) := by decide +kernel
theorem dX6_addLast_16 : decode cX6_addLast 16 = .ok (.lload_n 1, 1) := by decide +kernel
theorem dX6_addLast_17 : decode cX6_addLast 17 = .ok (.lcmp, 1) := by decide +kernel
theorem dX6_addLast_18 : decode cX6_addLast 18 = .ok (.ifCond .ne 4, 3) := by decide +kernel
theorem dX6_addLast_21 : decode cX6_addLast 21 = .ok (.return_, 1) := by decide +kernel
theorem dX6_addLast_22 : decode cX6_addLast 22 = .ok (.iinc 3 1, 3) := by decide +kernel
theorem dX6_addLast_25 : decode cX6_addLast 25 = .ok (.goto (-23), 3) := by decide +kernel
theorem dX6_addLast_28 : decode cX6_addLast 28 = .ok (.aload_n 0, 1) := by decide +kernel
theorem dX6_addLast_29 : decode cX6_addLast 29 = .ok (.getfield 81, 3) := by decide +kernel
theorem dX6_addLast_32 : decode cX6_addLast 32 = .ok (.bipush 6, 2) := by decide +kernel
theorem dX6_addLast_34 : decode cX6_addLast 34 = .ok (.if_icmp .ge 23, 3) := by decide +kernel
theorem dX6_addLast_37 : decode cX6_addLast 37 = .ok (.aload_n 0, 1) := by decide +kernel
theorem dX6_addLast_38 : decode cX6_addLast 38 = .ok (.getfield 28, 3) := by decide +kernel
theorem dX6_addLast_41 : decode cX6_addLast 41 = .ok (.aload_n 0, 1) := by decide +kernel
theorem dX6_addLast_42 : decode cX6_addLast 42 = .ok (.getfield 81, 3) := by decide +kernel
theorem dX6_addLast_45 : decode cX6_addLast 45 = .ok (.lload_n 1, 1) := by decide +kernel
theorem dX6_addLast_46 : decode cX6_addLast 46 = .ok (.lastore, 1) := by decide +kernel
theorem dX6_addLast_47 : decode cX6_addLast 47 = .ok (.aload_n 0, 1) := by decide +kernel
theorem dX6_addLast_48 : decode cX6_addLast 48 = .ok (.dup, 1) := by decide +kernel
theorem dX6_addLast_49 : decode cX6_addLast 49 = .ok (.getfield 81, 3) := by decide +kernel
theorem dX6_addLast_52 : decode cX6_addLast 52 = .ok (.iconst 1, 1) := by decide +kernel
theorem dX6_addLast_53 : decode cX6_addLast 53 = .ok (.iadd, 1) := by decide +kernel
theorem dX6_addLast_54 : decode cX6_addLast 54 = .ok (.putfield 81, 3) := by decide +kernel
theorem dX6_addLast_57 : decode cX6_addLast 57 = .ok (.return_, 1) := by decide +kernel
def f_Suite_addLast_L2 (x1 : Int64) (k21 : MI → MJ → Prop) (k28 : MI → MJ → Prop) : Nat → Int32 → MI → MJ → Prop
  | 0, _, _, _ => False
  | nf2 + 1, x3, I, J =>
  (if (I 26 3) ≤ x3 then k28 I J else vp_in x3 6 ∧ (if (J 35 x3.toNatClampNeg) = x1 then k21 I J else ∀ t22 : Int32, t22 = x3 + 1 → f_Suite_addLast_L2 x1 k21 k28 nf2 t22 I J))
def f_Suite_addLast (x1 : Int64) (I : MI) (J : MJ) (Q : MI → MJ → Prop) : Prop :=
  ∃ n, f_Suite_addLast_L2 x1 (fun (I : MI) (J : MJ) => Q I J) (fun (I : MI) (J : MJ) => (if 6 ≤ (I 26 3) then Q I J else vp_in (I 26 3) 6 ∧ ∀ J46 : MJ, J46 = sJ J 35 (vp_updL (J 35) (I 26 3).toNatClampNeg x1) → ∀ I54 : MI, I54 = sI I 26 (upd (I 26) 3 ((I 26 3) + 1)) → Q I54 J46)) n 0 I J
set_option maxRecDepth 100000 in
set_option maxHeartbeats 4000000 in
theorem w_Suite_addLast_L2 {Γ : Ctx} {Q : MI → MJ → Prop} {x1 : Int64} {k21 : MI → MJ → Prop} {k28 : MI → MJ → Prop} (X : Cx Γ cX6_addLast 4 RX6 0) (Y : Rt Γ (Pv Q) (Option.none : Option Jvm.ClassFile.FieldType))  (hk21 : ∀ (I : MI) (J : MJ), k21 I J → Wp Γ 4 21 [] [] I J) (hk28 : ∀ (I : MI) (J : MJ), k28 I J → Wp Γ 4 28 [(0, .ref (ad Γ 26)), (1, .long x1)] [] I J) : ∀ (n : Nat) (x3 : Int32) (I : MI) (J : MJ), f_Suite_addLast_L2 x1 k21 k28 n x3 I J → Wp Γ 4 2 [(0, .ref (ad Γ 26)), (1, .long x1), (3, .int x3)] [] I J := by
  intro n
  induction n with
  | zero => intro x3 I J h; exact absurd h (by simp [f_Suite_addLast_L2])
  | succ n ih =>
  intro x3 I J h
  unfold f_Suite_addLast_L2 at h
  refine wp_iload_n X dX6_addLast_2 2 rfl ?_
  refine wp_aload_n X dX6_addLast_3 0 rfl ?_
  refine gf_X6_81 X sh_26 dX6_addLast_4 ?_
  refine wp_icmp_ge (tgt := 28) X dX6_addLast_7 (by decide) (fun hc => ?_) (fun hc => ?_)
  · have h := ite_t h hc
    refine wp_sub X [0, 1] rfl ?_
    exact hk28 _ _ h
  · have h := ite_f h hc
    refine wp_aload_n X dX6_addLast_10 0 rfl ?_
    refine gf_X6_28 (o' := 35) X sh_26 rfl dX6_addLast_11 ?_
    refine wp_iload_n X dX6_addLast_14 2 rfl ?_
    obtain ⟨hb15, h⟩ := h
    refine wp_lald X sh_35 hb15 dX6_addLast_15 ?_
    refine wp_lload_n X dX6_addLast_16 1 rfl ?_
    refine wp_lcmp_ne (tgt := 22) X dX6_addLast_17 dX6_addLast_18 (by decide) (fun hc => ?_) (fun hc => ?_)
    · have h := ite_f h hc
      obtain ⟨t22, et22⟩ : ∃ y : Int32, y = x3 + 1 := ⟨_, rfl⟩
      have h := h t22 et22
      refine wp_iinc (L' := [(3, .int t22), (0, .ref (ad Γ 26)), (1, .long x1)]) X dX6_addLast_22 2 rfl (ii_1 et22) (by decide) rfl ?_
      refine wp_goto (tgt := 2) X dX6_addLast_25 (by decide) ?_
      refine wp_sub X [1, 2, 0] rfl ?_
      exact ih _ _ _ h
    · have h := ite_t h hc
      refine wp_sub X [] rfl ?_
      exact hk21 _ _ h

set_option maxRecDepth 100000 in
set_option maxHeartbeats 4000000 in
theorem w_Suite_addLast_b0 {Γ : Ctx} {Q : MI → MJ → Prop} {x1 : Int64}  (X : Cx Γ cX6_addLast 4 RX6 0) (Y : Rt Γ (Pv Q) (Option.none : Option Jvm.ClassFile.FieldType))   {I : MI} {J : MJ} (h : f_Suite_addLast x1 I J Q) : Wp Γ 4 0 [(0, .ref (ad Γ 26)), (1, .long x1)] [] I J := by
  unfold f_Suite_addLast at h
  refine wp_iconst X dX6_addLast_0 ic_0 ?_
  refine wp_istore_n (L' := [(3, .int 0), (0, .ref (ad Γ 26)), (1, .long x1)]) X dX6_addLast_1 rfl (by decide) rfl ?_
  obtain ⟨n, h⟩ := h
  refine wp_sub X [1, 2, 0] rfl ?_
  refine w_Suite_addLast_L2 X Y  ?_ ?_ n _ _ _ h
  · intro I J h
    exact wp_vret X Y dX6_addLast_21 ⟨rfl, h⟩
  · intro I J h
    refine wp_aload_n X dX6_addLast_28 0 rfl ?_
    refine gf_X6_81 X sh_26 dX6_addLast_29 ?_
    refine wp_bipush X dX6_addLast_32 bi_6 ?_
    refine wp_icmp_ge (tgt := 57) X dX6_addLast_34 (by decide) (fun hc => ?_) (fun hc => ?_)
    · have h := ite_t h hc
      exact wp_vret X Y dX6_addLast_57 ⟨rfl, h⟩
    · have h := ite_f h hc
      refine wp_aload_n X dX6_addLast_37 0 rfl ?_
      refine gf_X6_28 (o' := 35) X sh_26 rfl dX6_addLast_38 ?_
      refine wp_aload_n X dX6_addLast_41 0 rfl ?_
      refine gf_X6_81 X sh_26 dX6_addLast_42 ?_
      refine wp_lload_n X dX6_addLast_45 1 rfl ?_
      obtain ⟨hb46, h⟩ := h
      refine wp_last X sh_35 hb46 dX6_addLast_46 ?_
      refine wp_memJ (fun J46 eJ46 => ?_)
      have h := h J46 eJ46
      refine wp_aload_n X dX6_addLast_47 0 rfl ?_
      refine wp_dup X dX6_addLast_48 rfl ?_
      refine gf_X6_81 X sh_26 dX6_addLast_49 ?_
      refine wp_iconst X dX6_addLast_52 ic_1 ?_
      refine wp_iadd X dX6_addLast_53 ?_
      refine pf_X6_81 X sh_26 dX6_addLast_54 (fun I54 eI54 => ?_)
      have h := h I54 eI54
      exact wp_vret X Y dX6_addLast_57 ⟨rfl, h⟩

theorem c_Suite_addLast {l : Launch} {g : GE} (hg : Inj g) {I : MI} {J : MJ} {Q : MI → MJ → Prop} {x1 : Int64}  (h : f_Suite_addLast x1 I J Q) : Cm l g yX6_addLast cX6_addLast 4 (Option.none : Option Jvm.ClassFile.FieldType) 0 [.ref (g.1 26), .long x1] I J (Pv Q) := by
  refine Cm.of (As := fun ad => [.ref (ad 26), .long x1]) hg pn_X6 (Nat.le_of_ble_eq_true rfl) ?_
  exact (fun Γ _ _ X Y => w_Suite_addLast_b0 X Y  h)
theorem cv_Suite_addLast {Γ : Ctx} {cc : ByteArray} {nL d pc index : Nat} {own : String} {L : List (Nat × Value)} {rest : List Value} {I : MI} {J : MJ} {Q : MI → MJ → Prop} {x1 : Int64} (X : Cx Γ cc nL own d) (hd : decode cc pc = .ok (.invokevirtual index, 3)) (hlink : Cond.methodLink own index yX6_addLast ∈ TT)  (h : f_Suite_addLast x1 I J Q) (hrest : (rest.map fun v => v.category).sum ≤ 8) (hdd : 0 + 1 ≤ d) (kk : ∀ (I' : MI) (J' : MJ), Q I' J' → Wp Γ nL (pc + 3) L rest I' J') : Wp Γ nL pc L (.long x1 :: .ref (ad Γ 26) :: rest) I J :=
  wp_callV (As := [.long x1]) (rest := rest) (T := TX6) (N := 9) X hd hlink mv_X6_addLast sh_26 (by decide) rfl (c_Suite_addLast X.inj  h) rfl rfl hrest hdd (fun v I' J' hv => by obtain ⟨rfl, hq⟩ := hv; exact kk I' J' hq)
theorem dX6_gatherLasts_0 : decode cX6_gatherLasts 0 = .ok (.aload_n 0, 1) := by decide +kernel
theorem dX6_gatherLasts_1 : decode cX6_gatherLasts 1 = .ok (.getfield 28, 3) := by decide +kernel
theorem dX6_gatherLasts_4 : decode cX6_gatherLasts 4 = .ok (.iconst 0, 1) := by decide +kernel
theorem dX6_gatherLasts_5 : decode cX6_gatherLasts 5 = .ok (.lconst 1, 1) := by decide +kernel
theorem dX6_gatherLasts_6 : decode cX6_gatherLasts 6 = .ok (.lastore, 1) := by decide +kernel
theorem dX6_gatherLasts_7 : decode cX6_gatherLasts 7 = .ok (.aload_n 0, 1) := by decide +kernel
theorem dX6_gatherLasts_8 : decode cX6_gatherLasts 8 = .ok (.iconst 1, 1) := by decide +kernel
theorem dX6_gatherLasts_9 : decode cX6_gatherLasts 9 = .ok (.putfield 81, 3) := by decide +kernel
theorem dX6_gatherLasts_12 : decode cX6_gatherLasts 12 = .ok (.iconst 1, 1) := by decide +kernel
theorem dX6_gatherLasts_13 : decode cX6_gatherLasts 13 = .ok (.istore_n 2, 1) := by decide +kernel
theorem dX6_gatherLasts_14 : decode cX6_gatherLasts 14 = .ok (.iload_n 2, 1) := by decide +kernel
theorem dX6_gatherLasts_15 : decode cX6_gatherLasts 15 = .ok (.aload_n 0, 1) := by decide +kernel
theorem dX6_gatherLasts_16 : decode cX6_gatherLasts 16 = .ok (.getfield 12, 3) := by decide +kernel
theorem dX6_gatherLasts_19 : decode cX6_gatherLasts 19 = .ok (.getfield 63, 3) := by decide +kernel
theorem dX6_gatherLasts_22 : decode cX6_gatherLasts 22 = .ok (.if_icmp .ge 44, 3) := by decide +kernel
theorem dX6_gatherLasts_25 : decode cX6_gatherLasts 25 = .ok (.iconst 0, 1) := by decide +kernel
theorem dX6_gatherLasts_26 : decode cX6_gatherLasts 26 = .ok (.istore_n 3, 1) := by decide +kernel
theorem dX6_gatherLasts_27 : decode cX6_gatherLasts 27 = .ok (.iload_n 3, 1) := by decide +kernel
theorem dX6_gatherLasts_28 : decode cX6_gatherLasts 28 = .ok (.iload_n 2, 1) := by decide +kernel
theorem dX6_gatherLasts_29 : decode cX6_gatherLasts 29 = .ok (.if_icmp .ge 31, 3) := by decide +kernel
theorem dX6_gatherLasts_32 : decode cX6_gatherLasts 32 = .ok (.aload_n 0, 1) := by decide +kernel
theorem dX6_gatherLasts_33 : decode cX6_gatherLasts 33 = .ok (.aload_n 1, 1) := by decide +kernel
theorem dX6_gatherLasts_34 : decode cX6_gatherLasts 34 = .ok (.aload_n 0, 1) := by decide +kernel
theorem dX6_gatherLasts_35 : decode cX6_gatherLasts 35 = .ok (.getfield 12, 3) := by decide +kernel
theorem dX6_gatherLasts_38 : decode cX6_gatherLasts 38 = .ok (.iload_n 3, 1) := by decide +kernel
theorem dX6_gatherLasts_39 : decode cX6_gatherLasts 39 = .ok (.iconst 4, 1) := by decide +kernel
theorem dX6_gatherLasts_40 : decode cX6_gatherLasts 40 = .ok (.imul, 1) := by decide +kernel
theorem dX6_gatherLasts_41 : decode cX6_gatherLasts 41 = .ok (.aload_n 0, 1) := by decide +kernel
theorem dX6_gatherLasts_42 : decode cX6_gatherLasts 42 = .ok (.getfield 12, 3) := by decide +kernel
theorem dX6_gatherLasts_45 : decode cX6_gatherLasts 45 = .ok (.iload_n 2, 1) := by decide +kernel
theorem dX6_gatherLasts_46 : decode cX6_gatherLasts 46 = .ok (.iconst 4, 1) := by decide +kernel
theorem dX6_gatherLasts_47 : decode cX6_gatherLasts 47 = .ok (.imul, 1) := by decide +kernel
theorem dX6_gatherLasts_48 : decode cX6_gatherLasts 48 = .ok (.invokevirtual 84, 3) := by decide +kernel
theorem dX6_gatherLasts_51 : decode cX6_gatherLasts 51 = .ok (.invokevirtual 90, 3) := by decide +kernel
theorem dX6_gatherLasts_54 : decode cX6_gatherLasts 54 = .ok (.iinc 3 1, 3) := by decide +kernel
theorem dX6_gatherLasts_57 : decode cX6_gatherLasts 57 = .ok (.goto (-30), 3) := by decide +kernel
theorem dX6_gatherLasts_60 : decode cX6_gatherLasts 60 = .ok (.iinc 2 1, 3) := by decide +kernel
theorem dX6_gatherLasts_63 : decode cX6_gatherLasts 63 = .ok (.goto (-49), 3) := by decide +kernel
theorem dX6_gatherLasts_66 : decode cX6_gatherLasts 66 = .ok (.return_, 1) := by decide +kernel
def f_Suite_gatherLasts_L27 (x2 : Int32) (k60 : MI → MJ → Prop) : Nat → Int32 → MI → MJ → Prop
  | 0, _, _, _ => False
  | nf27 + 1, x3, I, J =>
  (if x2 ≤ x3 then k60 I J else f_Chart_firstUnlike 27 (x3 * 4) 27 (x2 * 4) I J (fun r48 I48 J48 => f_Suite_addLast r48 I48 J48 (fun I51 J51 => ∀ t54 : Int32, t54 = x3 + 1 → f_Suite_gatherLasts_L27 x2 k60 nf27 t54 I51 J51)))
def f_Suite_gatherLasts_L14 (k66 : MI → MJ → Prop) : Nat → Int32 → MI → MJ → Prop
  | 0, _, _, _ => False
  | nf14 + 1, x2, I, J =>
  (if (I 27 1) ≤ x2 then k66 I J else ∃ n, f_Suite_gatherLasts_L27 x2 (fun (I : MI) (J : MJ) => ∀ t60 : Int32, t60 = x2 + 1 → f_Suite_gatherLasts_L14 k66 nf14 t60 I J) n 0 I J)
def f_Suite_gatherLasts (I : MI) (J : MJ) (Q : MI → MJ → Prop) : Prop :=
  vp_in 0 6 ∧ ∀ J6 : MJ, J6 = sJ J 35 (vp_updL (J 35) (0 : Int32).toNatClampNeg 1) → ∀ I9 : MI, I9 = sI I 26 (upd (I 26) 3 1) → ∃ n, f_Suite_gatherLasts_L14 (fun (I : MI) (J : MJ) => Q I J) n 1 I9 J6
set_option maxRecDepth 100000 in
set_option maxHeartbeats 4000000 in
theorem w_Suite_gatherLasts_L27 {Γ : Ctx} {Q : MI → MJ → Prop} {x2 : Int32} {k60 : MI → MJ → Prop} (X : Cx Γ cX6_gatherLasts 4 RX6 3) (Y : Rt Γ (Pv Q) (Option.none : Option Jvm.ClassFile.FieldType))  (hk60 : ∀ (I : MI) (J : MJ), k60 I J → Wp Γ 4 60 [(0, .ref (ad Γ 26)), (1, .ref (ad Γ 2)), (2, .int x2)] [] I J) : ∀ (n : Nat) (x3 : Int32) (I : MI) (J : MJ), f_Suite_gatherLasts_L27 x2 k60 n x3 I J → Wp Γ 4 27 [(0, .ref (ad Γ 26)), (1, .ref (ad Γ 2)), (2, .int x2), (3, .int x3)] [] I J := by
  intro n
  induction n with
  | zero => intro x3 I J h; exact absurd h (by simp [f_Suite_gatherLasts_L27])
  | succ n ih =>
  intro x3 I J h
  unfold f_Suite_gatherLasts_L27 at h
  refine wp_iload_n X dX6_gatherLasts_27 3 rfl ?_
  refine wp_iload_n X dX6_gatherLasts_28 2 rfl ?_
  refine wp_icmp_ge (tgt := 60) X dX6_gatherLasts_29 (by decide) (fun hc => ?_) (fun hc => ?_)
  · have h := ite_t h hc
    refine wp_sub X [0, 1, 2] rfl ?_
    exact hk60 _ _ h
  · have h := ite_f h hc
    refine wp_aload_n X dX6_gatherLasts_32 0 rfl ?_
    refine wp_aload_n X dX6_gatherLasts_33 1 rfl ?_
    refine wp_aload_n X dX6_gatherLasts_34 0 rfl ?_
    refine gf_X6_12 (o' := 27) X sh_26 rfl dX6_gatherLasts_35 ?_
    refine wp_iload_n X dX6_gatherLasts_38 3 rfl ?_
    refine wp_iconst X dX6_gatherLasts_39 ic_4 ?_
    refine wp_imul X dX6_gatherLasts_40 ?_
    refine wp_aload_n X dX6_gatherLasts_41 0 rfl ?_
    refine gf_X6_12 (o' := 27) X sh_26 rfl dX6_gatherLasts_42 ?_
    refine wp_iload_n X dX6_gatherLasts_45 2 rfl ?_
    refine wp_iconst X dX6_gatherLasts_46 ic_4 ?_
    refine wp_imul X dX6_gatherLasts_47 ?_
    refine cv_Chart_firstUnlike X dX6_gatherLasts_48 ml_X6_84 okM_27 okM_27 h (Nat.le_of_ble_eq_true rfl) (by decide) (fun r48 I48 J48 h => ?_)
    refine cv_Suite_addLast X dX6_gatherLasts_51 ml_X6_90  h (Nat.le_of_ble_eq_true rfl) (by decide) (fun I51 J51 h => ?_)
    obtain ⟨t54, et54⟩ : ∃ y : Int32, y = x3 + 1 := ⟨_, rfl⟩
    have h := h t54 et54
    refine wp_iinc (L' := [(3, .int t54), (0, .ref (ad Γ 26)), (1, .ref (ad Γ 2)), (2, .int x2)]) X dX6_gatherLasts_54 3 rfl (ii_1 et54) (by decide) rfl ?_
    refine wp_goto (tgt := 27) X dX6_gatherLasts_57 (by decide) ?_
    refine wp_sub X [1, 2, 3, 0] rfl ?_
    exact ih _ _ _ h

set_option maxRecDepth 100000 in
set_option maxHeartbeats 4000000 in
theorem w_Suite_gatherLasts_L14 {Γ : Ctx} {Q : MI → MJ → Prop}  {k66 : MI → MJ → Prop} (X : Cx Γ cX6_gatherLasts 4 RX6 3) (Y : Rt Γ (Pv Q) (Option.none : Option Jvm.ClassFile.FieldType))  (hk66 : ∀ (I : MI) (J : MJ), k66 I J → Wp Γ 4 66 [] [] I J) : ∀ (n : Nat) (x2 : Int32) (I : MI) (J : MJ), f_Suite_gatherLasts_L14 k66 n x2 I J → Wp Γ 4 14 [(0, .ref (ad Γ 26)), (1, .ref (ad Γ 2)), (2, .int x2)] [] I J := by
  intro n
  induction n with
  | zero => intro x2 I J h; exact absurd h (by simp [f_Suite_gatherLasts_L14])
  | succ n ih =>
  intro x2 I J h
  unfold f_Suite_gatherLasts_L14 at h
  refine wp_iload_n X dX6_gatherLasts_14 2 rfl ?_
  refine wp_aload_n X dX6_gatherLasts_15 0 rfl ?_
  refine gf_X6_12 (o' := 27) X sh_26 rfl dX6_gatherLasts_16 ?_
  refine gf_X6_63 X okM_27.1 dX6_gatherLasts_19 ?_
  refine wp_icmp_ge (tgt := 66) X dX6_gatherLasts_22 (by decide) (fun hc => ?_) (fun hc => ?_)
  · have h := ite_t h hc
    refine wp_sub X [] rfl ?_
    exact hk66 _ _ h
  · have h := ite_f h hc
    refine wp_iconst X dX6_gatherLasts_25 ic_0 ?_
    refine wp_istore_n (L' := [(3, .int 0), (0, .ref (ad Γ 26)), (1, .ref (ad Γ 2)), (2, .int x2)]) X dX6_gatherLasts_26 rfl (by decide) rfl ?_
    obtain ⟨n, h⟩ := h
    refine wp_sub X [1, 2, 3, 0] rfl ?_
    refine w_Suite_gatherLasts_L27 X Y  ?_ n _ _ _ h
    · intro I J h
      obtain ⟨t60, et60⟩ : ∃ y : Int32, y = x2 + 1 := ⟨_, rfl⟩
      have h := h t60 et60
      refine wp_iinc (L' := [(2, .int t60), (0, .ref (ad Γ 26)), (1, .ref (ad Γ 2))]) X dX6_gatherLasts_60 2 rfl (ii_1 et60) (by decide) rfl ?_
      refine wp_goto (tgt := 14) X dX6_gatherLasts_63 (by decide) ?_
      refine wp_sub X [1, 2, 0] rfl ?_
      exact ih _ _ _ h

set_option maxRecDepth 100000 in
set_option maxHeartbeats 4000000 in
theorem w_Suite_gatherLasts_b0 {Γ : Ctx} {Q : MI → MJ → Prop}   (X : Cx Γ cX6_gatherLasts 4 RX6 3) (Y : Rt Γ (Pv Q) (Option.none : Option Jvm.ClassFile.FieldType))   {I : MI} {J : MJ} (h : f_Suite_gatherLasts  I J Q) : Wp Γ 4 0 [(0, .ref (ad Γ 26)), (1, .ref (ad Γ 2))] [] I J := by
  unfold f_Suite_gatherLasts at h
  refine wp_aload_n X dX6_gatherLasts_0 0 rfl ?_
  refine gf_X6_28 (o' := 35) X sh_26 rfl dX6_gatherLasts_1 ?_
  refine wp_iconst X dX6_gatherLasts_4 ic_0 ?_
  refine wp_lconst X dX6_gatherLasts_5 lc_1 ?_
  obtain ⟨hb6, h⟩ := h
  refine wp_last X sh_35 hb6 dX6_gatherLasts_6 ?_
  refine wp_memJ (fun J6 eJ6 => ?_)
  have h := h J6 eJ6
  refine wp_aload_n X dX6_gatherLasts_7 0 rfl ?_
  refine wp_iconst X dX6_gatherLasts_8 ic_1 ?_
  refine pf_X6_81 X sh_26 dX6_gatherLasts_9 (fun I9 eI9 => ?_)
  have h := h I9 eI9
  refine wp_iconst X dX6_gatherLasts_12 ic_1 ?_
  refine wp_istore_n (L' := [(2, .int 1), (0, .ref (ad Γ 26)), (1, .ref (ad Γ 2))]) X dX6_gatherLasts_13 rfl (by decide) rfl ?_
  obtain ⟨n, h⟩ := h
  refine wp_sub X [1, 2, 0] rfl ?_
  refine w_Suite_gatherLasts_L14 X Y  ?_ n _ _ _ h
  · intro I J h
    exact wp_vret X Y dX6_gatherLasts_66 ⟨rfl, h⟩

theorem c_Suite_gatherLasts {l : Launch} {g : GE} (hg : Inj g) {I : MI} {J : MJ} {Q : MI → MJ → Prop}   (h : f_Suite_gatherLasts  I J Q) : Cm l g yX6_gatherLasts cX6_gatherLasts 4 (Option.none : Option Jvm.ClassFile.FieldType) 3 [.ref (g.1 26), .ref (g.1 2)] I J (Pv Q) := by
  refine Cm.of (As := fun ad => [.ref (ad 26), .ref (ad 2)]) hg pn_X6 (Nat.le_of_ble_eq_true rfl) ?_
  exact (fun Γ _ _ X Y => w_Suite_gatherLasts_b0 X Y  h)
theorem cv_Suite_gatherLasts {Γ : Ctx} {cc : ByteArray} {nL d pc index : Nat} {own : String} {L : List (Nat × Value)} {rest : List Value} {I : MI} {J : MJ} {Q : MI → MJ → Prop}  (X : Cx Γ cc nL own d) (hd : decode cc pc = .ok (.invokevirtual index, 3)) (hlink : Cond.methodLink own index yX6_gatherLasts ∈ TT)  (h : f_Suite_gatherLasts  I J Q) (hrest : (rest.map fun v => v.category).sum ≤ 8) (hdd : 3 + 1 ≤ d) (kk : ∀ (I' : MI) (J' : MJ), Q I' J' → Wp Γ nL (pc + 3) L rest I' J') : Wp Γ nL pc L (.ref (ad Γ 2) :: .ref (ad Γ 26) :: rest) I J :=
  wp_callV (As := [.ref (ad Γ 2)]) (rest := rest) (T := TX6) (N := 9) X hd hlink mv_X6_gatherLasts sh_26 (by decide) rfl (c_Suite_gatherLasts X.inj  h) rfl rfl hrest hdd (fun v I' J' hv => by obtain ⟨rfl, hq⟩ := hv; exact kk I' J' hq)
theorem dX6_gather_0 : decode cX6_gather 0 = .ok (.aload_n 0, 1) := by decide +kernel
theorem dX6_gather_1 : decode cX6_gather 1 = .ok (.iload_n 1, 1) := by decide +kernel
theorem dX6_gather_2 : decode cX6_gather 2 = .ok (.invokevirtual 34, 3) := by decide +kernel
theorem dX6_gather_5 : decode cX6_gather 5 = .ok (.aload_n 0, 1) := by decide +kernel
theorem dX6_gather_6 : decode cX6_gather 6 = .ok (.invokevirtual 38, 3) := by decide +kernel
theorem dX6_gather_9 : decode cX6_gather 9 = .ok (.aload_n 0, 1) := by decide +kernel
theorem dX6_gather_10 : decode cX6_gather 10 = .ok (.aload_n 2, 1) := by decide +kernel
theorem dX6_gather_11 : decode cX6_gather 11 = .ok (.invokevirtual 41, 3) := by decide +kernel
theorem dX6_gather_14 : decode cX6_gather 14 = .ok (.return_, 1) := by decide +kernel
def f_Suite_gather (x1 : Int32) (I : MI) (J : MJ) (Q : MI → MJ → Prop) : Prop :=
  f_Suite_gatherMiddles x1 I J (fun I2 J2 => f_Suite_gatherHeads I2 J2 (fun I6 J6 => f_Suite_gatherLasts I6 J6 (fun I11 J11 => Q I11 J11)))
set_option maxRecDepth 100000 in
set_option maxHeartbeats 4000000 in
theorem w_Suite_gather_b0 {Γ : Ctx} {Q : MI → MJ → Prop} {x1 : Int32}  (X : Cx Γ cX6_gather 3 RX6 4) (Y : Rt Γ (Pv Q) (Option.none : Option Jvm.ClassFile.FieldType))   {I : MI} {J : MJ} (h : f_Suite_gather x1 I J Q) : Wp Γ 3 0 [(0, .ref (ad Γ 26)), (1, .int x1), (2, .ref (ad Γ 2))] [] I J := by
  unfold f_Suite_gather at h
  refine wp_aload_n X dX6_gather_0 0 rfl ?_
  refine wp_iload_n X dX6_gather_1 1 rfl ?_
  refine cv_Suite_gatherMiddles X dX6_gather_2 ml_X6_34  h (Nat.le_of_ble_eq_true rfl) (by decide) (fun I2 J2 h => ?_)
  refine wp_aload_n X dX6_gather_5 0 rfl ?_
  refine cv_Suite_gatherHeads X dX6_gather_6 ml_X6_38  h (Nat.le_of_ble_eq_true rfl) (by decide) (fun I6 J6 h => ?_)
  refine wp_aload_n X dX6_gather_9 0 rfl ?_
  refine wp_aload_n X dX6_gather_10 2 rfl ?_
  refine cv_Suite_gatherLasts X dX6_gather_11 ml_X6_41  h (Nat.le_of_ble_eq_true rfl) (by decide) (fun I11 J11 h => ?_)
  exact wp_vret X Y dX6_gather_14 ⟨rfl, h⟩

theorem c_Suite_gather {l : Launch} {g : GE} (hg : Inj g) {I : MI} {J : MJ} {Q : MI → MJ → Prop} {x1 : Int32}  (h : f_Suite_gather x1 I J Q) : Cm l g yX6_gather cX6_gather 3 (Option.none : Option Jvm.ClassFile.FieldType) 4 [.ref (g.1 26), .int x1, .ref (g.1 2)] I J (Pv Q) := by
  refine Cm.of (As := fun ad => [.ref (ad 26), .int x1, .ref (ad 2)]) hg pn_X6 (Nat.le_of_ble_eq_true rfl) ?_
  exact (fun Γ _ _ X Y => w_Suite_gather_b0 X Y  h)
theorem cv_Suite_gather {Γ : Ctx} {cc : ByteArray} {nL d pc index : Nat} {own : String} {L : List (Nat × Value)} {rest : List Value} {I : MI} {J : MJ} {Q : MI → MJ → Prop} {x1 : Int32} (X : Cx Γ cc nL own d) (hd : decode cc pc = .ok (.invokevirtual index, 3)) (hlink : Cond.methodLink own index yX6_gather ∈ TT)  (h : f_Suite_gather x1 I J Q) (hrest : (rest.map fun v => v.category).sum ≤ 8) (hdd : 4 + 1 ≤ d) (kk : ∀ (I' : MI) (J' : MJ), Q I' J' → Wp Γ nL (pc + 3) L rest I' J') : Wp Γ nL pc L (.ref (ad Γ 2) :: .int x1 :: .ref (ad Γ 26) :: rest) I J :=
  wp_callV (As := [.int x1, .ref (ad Γ 2)]) (rest := rest) (T := TX6) (N := 9) X hd hlink mv_X6_gather sh_26 (by decide) rfl (c_Suite_gather X.inj  h) rfl rfl hrest hdd (fun v I' J' hv => by obtain ⟨rfl, hq⟩ := hv; exact kk I' J' hq)
theorem dX10_gatherSuite_0 : decode cX10_gatherSuite 0 = .ok (.aload_n 0, 1) := by decide +kernel
theorem dX10_gatherSuite_1 : decode cX10_gatherSuite 1 = .ok (.iload_n 1, 1) := by decide +kernel
theorem dX10_gatherSuite_2 : decode cX10_gatherSuite 2 = .ok (.invokevirtual 162, 3) := by decide +kernel
theorem dX10_gatherSuite_5 : decode cX10_gatherSuite 5 = .ok (.astore_n 3, 1) := by decide +kernel
theorem dX10_gatherSuite_6 : decode cX10_gatherSuite 6 = .ok (.aload_n 3, 1) := by decide +kernel
theorem dX10_gatherSuite_7 : decode cX10_gatherSuite 7 = .ok (.ifnull 30, 3) := by decide +kernel
theorem dX10_gatherSuite_10 : decode cX10_gatherSuite 10 = .ok (.iload_n 2, 1) := by decide +kernel
theorem dX10_gatherSuite_11 : decode cX10_gatherSuite 11 = .ok (.ifCond .lt 26, 3) := by decide +kernel
theorem dX10_gatherSuite_14 : decode cX10_gatherSuite 14 = .ok (.iload_n 2, 1) := by decide +kernel
theorem dX10_gatherSuite_15 : decode cX10_gatherSuite 15 = .ok (.iconst 2, 1) := by decide +kernel
theorem dX10_gatherSuite_16 : decode cX10_gatherSuite 16 = .ok (.if_icmp .gt 21, 3) := by decide +kernel
theorem dX10_gatherSuite_19 : decode cX10_gatherSuite 19 = .ok (.aload_n 0, 1) := by decide +kernel
theorem dX10_gatherSuite_20 : decode cX10_gatherSuite 20 = .ok (.getfield 18, 3) := by decide +kernel
theorem dX10_gatherSuite_23 : decode cX10_gatherSuite 23 = .ok (.aload_n 3, 1) := by decide +kernel
theorem dX10_gatherSuite_24 : decode cX10_gatherSuite 24 = .ok (.aload_n 0, 1) := by decide +kernel
theorem dX10_gatherSuite_25 : decode cX10_gatherSuite 25 = .ok (.getfield 39, 3) := by decide +kernel
theorem dX10_gatherSuite_28 : decode cX10_gatherSuite 28 = .ok (.getfield 340, 3) := by decide +kernel
theorem dX10_gatherSuite_31 : decode cX10_gatherSuite 31 = .ok (.invokevirtual 205, 3) := by decide +kernel
theorem dX10_gatherSuite_34 : decode cX10_gatherSuite 34 = .ok (.ifCond .ne 5, 3) := by decide +kernel
theorem dX10_gatherSuite_37 : decode cX10_gatherSuite 37 = .ok (.iconst 0, 1) := by decide +kernel
theorem dX10_gatherSuite_38 : decode cX10_gatherSuite 38 = .ok (.ireturn, 1) := by decide +kernel
theorem dX10_gatherSuite_39 : decode cX10_gatherSuite 39 = .ok (.aload_n 0, 1) := by decide +kernel
theorem dX10_gatherSuite_40 : decode cX10_gatherSuite 40 = .ok (.getfield 39, 3) := by decide +kernel
theorem dX10_gatherSuite_43 : decode cX10_gatherSuite 43 = .ok (.getfield 340, 3) := by decide +kernel
theorem dX10_gatherSuite_46 : decode cX10_gatherSuite 46 = .ok (.getfield 107, 3) := by decide +kernel
theorem dX10_gatherSuite_49 : decode cX10_gatherSuite 49 = .ok (.bipush 6, 2) := by decide +kernel
theorem dX10_gatherSuite_51 : decode cX10_gatherSuite 51 = .ok (.if_icmp .gt 17, 3) := by decide +kernel
theorem dX10_gatherSuite_54 : decode cX10_gatherSuite 54 = .ok (.aload_n 0, 1) := by decide +kernel
theorem dX10_gatherSuite_55 : decode cX10_gatherSuite 55 = .ok (.getfield 39, 3) := by decide +kernel
theorem dX10_gatherSuite_58 : decode cX10_gatherSuite 58 = .ok (.getfield 340, 3) := by decide +kernel
theorem dX10_gatherSuite_61 : decode cX10_gatherSuite 61 = .ok (.getfield 93, 3) := by decide +kernel
theorem dX10_gatherSuite_64 : decode cX10_gatherSuite 64 = .ok (.iconst 3, 1) := by decide +kernel
theorem dX10_gatherSuite_65 : decode cX10_gatherSuite 65 = .ok (.if_icmp .le 5, 3) := by decide +kernel
theorem dX10_gatherSuite_68 : decode cX10_gatherSuite 68 = .ok (.iconst 0, 1) := by decide +kernel
theorem dX10_gatherSuite_69 : decode cX10_gatherSuite 69 = .ok (.ireturn, 1) := by decide +kernel
theorem dX10_gatherSuite_70 : decode cX10_gatherSuite 70 = .ok (.aload_n 0, 1) := by decide +kernel
theorem dX10_gatherSuite_71 : decode cX10_gatherSuite 71 = .ok (.getfield 39, 3) := by decide +kernel
theorem dX10_gatherSuite_74 : decode cX10_gatherSuite 74 = .ok (.iload_n 2, 1) := by decide +kernel
theorem dX10_gatherSuite_75 : decode cX10_gatherSuite 75 = .ok (.aload_n 0, 1) := by decide +kernel
theorem dX10_gatherSuite_76 : decode cX10_gatherSuite 76 = .ok (.getfield 18, 3) := by decide +kernel
theorem dX10_gatherSuite_79 : decode cX10_gatherSuite 79 = .ok (.invokevirtual 343, 3) := by decide +kernel
theorem dX10_gatherSuite_82 : decode cX10_gatherSuite 82 = .ok (.iconst 1, 1) := by decide +kernel
theorem dX10_gatherSuite_83 : decode cX10_gatherSuite 83 = .ok (.ireturn, 1) := by decide +kernel
def f_School_gatherSuite (x1 : Int32) (x2 : Int32) (I : MI) (J : MJ) (Q : Int32 → MI → MJ → Prop) : Prop :=
  f_School_machineAt x1 I J (fun r2 I2 J2 => (match r2 with | none => Q 0 I2 J2 | some a7 => okM a7 ∧ (if x2 < 0 then Q 0 I2 J2 else (if 2 < x2 then Q 0 I2 J2 else f_Chart_makeLeast a7 27 I2 J2 (fun r31 I31 J31 => (if r31 = 0 then Q 0 I31 J31 else (if 6 < (I31 27 1) then Q 0 I31 J31 else (if (I31 27 2) ≤ 3 then f_Suite_gather x2 I31 J31 (fun I79 J79 => Q 1 I79 J79) else Q 0 I31 J31))))))))
set_option maxRecDepth 100000 in
set_option maxHeartbeats 4000000 in
theorem w_School_gatherSuite_b0 {Γ : Ctx} {Q : Int32 → MI → MJ → Prop} {x1 : Int32} {x2 : Int32}  (X : Cx Γ cX10_gatherSuite 4 RX10 6) (Y : Rt Γ (Pi Q) (Option.some Jvm.ClassFile.FieldType.boolean))   {I : MI} {J : MJ} (h : f_School_gatherSuite x1 x2 I J Q) : Wp Γ 4 0 [(0, .ref (ad Γ 0)), (1, .int x1), (2, .int x2)] [] I J := by
  unfold f_School_gatherSuite at h
  refine wp_aload_n X dX10_gatherSuite_0 0 rfl ?_
  refine wp_iload_n X dX10_gatherSuite_1 1 rfl ?_
  refine cv_School_machineAt X dX10_gatherSuite_2 ml_X10_162  h (Nat.le_of_ble_eq_true rfl) (by decide) (fun r2 I2 J2 h => ?_)
  refine wp_astore_nQ (L' := [(3, rfN (ad Γ) r2), (0, .ref (ad Γ 0)), (1, .int x1), (2, .int x2)]) X dX10_gatherSuite_5 rfl (by decide) rfl ?_
  refine wp_aload_nQ X dX10_gatherSuite_6 0 rfl ?_
  refine wp_ifnull (q := r2) (tgt := 37) X dX10_gatherSuite_7 (by decide) ?_ ?_
  · intro hq; subst hq
    refine wp_iconst X dX10_gatherSuite_37 ic_0 ?_
    exact wp_zret X Y dX10_gatherSuite_38 (by decide) ⟨_, rfl, h⟩
  · intro a7 hq; subst hq; obtain ⟨oka7, h⟩ := h
    refine wp_iload_n X dX10_gatherSuite_10 3 rfl ?_
    refine wp_if_lt (tgt := 37) X dX10_gatherSuite_11 (by decide) (fun hc => ?_) (fun hc => ?_)
    · have h := ite_t h hc
      refine wp_iconst X dX10_gatherSuite_37 ic_0 ?_
      exact wp_zret X Y dX10_gatherSuite_38 (by decide) ⟨_, rfl, h⟩
    · have h := ite_f h hc
      refine wp_iload_n X dX10_gatherSuite_14 3 rfl ?_
      refine wp_iconst X dX10_gatherSuite_15 ic_2 ?_
      refine wp_icmp_gt (tgt := 37) X dX10_gatherSuite_16 (by decide) (fun hc => ?_) (fun hc => ?_)
      · have h := ite_t h hc
        refine wp_iconst X dX10_gatherSuite_37 ic_0 ?_
        exact wp_zret X Y dX10_gatherSuite_38 (by decide) ⟨_, rfl, h⟩
      · have h := ite_f h hc
        refine wp_aload_n X dX10_gatherSuite_19 1 rfl ?_
        refine gf_X10_18 (o' := 2) X sh_0 rfl dX10_gatherSuite_20 ?_
        refine wp_aload_n X dX10_gatherSuite_23 0 rfl ?_
        refine wp_aload_n X dX10_gatherSuite_24 1 rfl ?_
        refine gf_X10_39 (o' := 26) X sh_0 rfl dX10_gatherSuite_25 ?_
        refine gf_X10_340 (o' := 27) X sh_26 rfl dX10_gatherSuite_28 ?_
        refine cv_Chart_makeLeast X dX10_gatherSuite_31 ml_X10_205 oka7 okM_27 h (Nat.le_of_ble_eq_true rfl) (by decide) (fun r31 I31 J31 h => ?_)
        refine wp_if_ne (tgt := 39) X dX10_gatherSuite_34 (by decide) (fun hc => ?_) (fun hc => ?_)
        · have h := ite_f h hc
          refine wp_aload_n X dX10_gatherSuite_39 1 rfl ?_
          refine gf_X10_39 (o' := 26) X sh_0 rfl dX10_gatherSuite_40 ?_
          refine gf_X10_340 (o' := 27) X sh_26 rfl dX10_gatherSuite_43 ?_
          refine gf_X10_107 X okM_27.1 dX10_gatherSuite_46 ?_
          refine wp_bipush X dX10_gatherSuite_49 bi_6 ?_
          refine wp_icmp_gt (tgt := 68) X dX10_gatherSuite_51 (by decide) (fun hc => ?_) (fun hc => ?_)
          · have h := ite_t h hc
            refine wp_iconst X dX10_gatherSuite_68 ic_0 ?_
            exact wp_zret X Y dX10_gatherSuite_69 (by decide) ⟨_, rfl, h⟩
          · have h := ite_f h hc
            refine wp_aload_n X dX10_gatherSuite_54 1 rfl ?_
            refine gf_X10_39 (o' := 26) X sh_0 rfl dX10_gatherSuite_55 ?_
            refine gf_X10_340 (o' := 27) X sh_26 rfl dX10_gatherSuite_58 ?_
            refine gf_X10_93 X okM_27.1 dX10_gatherSuite_61 ?_
            refine wp_iconst X dX10_gatherSuite_64 ic_3 ?_
            refine wp_icmp_le (tgt := 70) X dX10_gatherSuite_65 (by decide) (fun hc => ?_) (fun hc => ?_)
            · have h := ite_t h hc
              refine wp_aload_n X dX10_gatherSuite_70 1 rfl ?_
              refine gf_X10_39 (o' := 26) X sh_0 rfl dX10_gatherSuite_71 ?_
              refine wp_iload_n X dX10_gatherSuite_74 3 rfl ?_
              refine wp_aload_n X dX10_gatherSuite_75 1 rfl ?_
              refine gf_X10_18 (o' := 2) X sh_0 rfl dX10_gatherSuite_76 ?_
              refine cv_Suite_gather X dX10_gatherSuite_79 ml_X10_343  h (Nat.le_of_ble_eq_true rfl) (by decide) (fun I79 J79 h => ?_)
              refine wp_iconst X dX10_gatherSuite_82 ic_1 ?_
              exact wp_zret X Y dX10_gatherSuite_83 (by decide) ⟨_, rfl, h⟩
            · have h := ite_f h hc
              refine wp_iconst X dX10_gatherSuite_68 ic_0 ?_
              exact wp_zret X Y dX10_gatherSuite_69 (by decide) ⟨_, rfl, h⟩
        · have h := ite_t h hc
          refine wp_iconst X dX10_gatherSuite_37 ic_0 ?_
          exact wp_zret X Y dX10_gatherSuite_38 (by decide) ⟨_, rfl, h⟩

theorem c_School_gatherSuite {l : Launch} {g : GE} (hg : Inj g) {I : MI} {J : MJ} {Q : Int32 → MI → MJ → Prop} {x1 : Int32} {x2 : Int32}  (h : f_School_gatherSuite x1 x2 I J Q) : Cm l g yX10_gatherSuite cX10_gatherSuite 4 (Option.some Jvm.ClassFile.FieldType.boolean) 6 [.ref (g.1 0), .int x1, .int x2] I J (Pi Q) := by
  refine Cm.of (As := fun ad => [.ref (ad 0), .int x1, .int x2]) hg pn_X10 (Nat.le_of_ble_eq_true rfl) ?_
  exact (fun Γ _ _ X Y => w_School_gatherSuite_b0 X Y  h)
theorem cv_School_gatherSuite {Γ : Ctx} {cc : ByteArray} {nL d pc index : Nat} {own : String} {L : List (Nat × Value)} {rest : List Value} {I : MI} {J : MJ} {Q : Int32 → MI → MJ → Prop} {x1 : Int32} {x2 : Int32} (X : Cx Γ cc nL own d) (hd : decode cc pc = .ok (.invokevirtual index, 3)) (hlink : Cond.methodLink own index yX10_gatherSuite ∈ TT)  (h : f_School_gatherSuite x1 x2 I J Q) (hrest : (rest.map fun v => v.category).sum ≤ 8) (hdd : 6 + 1 ≤ d) (kk : ∀ (r : Int32) (I' : MI) (J' : MJ), Q r I' J' → Wp Γ nL (pc + 3) L (.int r :: rest) I' J') : Wp Γ nL pc L (.int x2 :: .int x1 :: .ref (ad Γ 0) :: rest) I J :=
  wp_callV (As := [.int x1, .int x2]) (rest := rest) (T := TX10) (N := 9) X hd hlink mv_X10_gatherSuite sh_0 (by decide) rfl (c_School_gatherSuite X.inj  h) rfl rfl hrest hdd (fun v I' J' hv => by obtain ⟨r, rfl, hq⟩ := hv; exact kk r I' J' hq)
theorem dX6_roomFor_0 : decode cX6_roomFor 0 = .ok (.bipush 16, 2) := by decide +kernel
theorem dX6_roomFor_2 : decode cX6_roomFor 2 = .ok (.istore_n 1, 1) := by decide +kernel
theorem dX6_roomFor_3 : decode cX6_roomFor 3 = .ok (.iload_n 1, 1) := by decide +kernel
theorem dX6_roomFor_4 : decode cX6_roomFor 4 = .ok (.sipush 2048, 3) := by decide +kernel
theorem dX6_roomFor_7 : decode cX6_roomFor 7 = .ok (.if_icmp .ge 19, 3) := by decide +kernel
theorem dX6_roomFor_10 : decode cX6_roomFor 10 = .ok (.iload_n 1, 1) := by decide +kernel
theorem dX6_roomFor_11 : decode cX6_roomFor 11 = .ok (.iload_n 0, 1) := by decide +kernel
theorem dX6_roomFor_12 : decode cX6_roomFor 12 = .ok (.iload_n 0, 1) := by decide +kernel
theorem dX6_roomFor_13 : decode cX6_roomFor 13 = .ok (.iconst 2, 1) := by decide +kernel
theorem dX6_roomFor_14 : decode cX6_roomFor 14 = .ok (.idiv, 1) := by decide +kernel
theorem dX6_roomFor_15 : decode cX6_roomFor 15 = .ok (.iadd, 1) := by decide +kernel
theorem dX6_roomFor_16 : decode cX6_roomFor 16 = .ok (.if_icmp .ge 10, 3) := by decide +kernel
theorem dX6_roomFor_19 : decode cX6_roomFor 19 = .ok (.iload_n 1, 1) := by decide +kernel
theorem dX6_roomFor_20 : decode cX6_roomFor 20 = .ok (.iconst 2, 1) := by decide +kernel
theorem dX6_roomFor_21 : decode cX6_roomFor 21 = .ok (.imul, 1) := by decide +kernel
theorem dX6_roomFor_22 : decode cX6_roomFor 22 = .ok (.istore_n 1, 1) := by decide +kernel
theorem dX6_roomFor_23 : decode cX6_roomFor 23 = .ok (.goto (-20), 3) := by decide +kernel
theorem dX6_roomFor_26 : decode cX6_roomFor 26 = .ok (.iload_n 1, 1) := by decide +kernel
theorem dX6_roomFor_27 : decode cX6_roomFor 27 = .ok (.ireturn, 1) := by decide +kernel
def f_Suite_roomFor_L3 (x0 : Int32) (k26 : Int32 → MI → MJ → Prop) : Nat → Int32 → MI → MJ → Prop
  | 0, _, _, _ => False
  | nf3 + 1, x1, I, J =>
  (if 2048 ≤ x1 then k26 x1 I J else (if (x0 + (x0 / 2)) ≤ x1 then k26 x1 I J else ∀ t22 : Int32, t22 = x1 * 2 → f_Suite_roomFor_L3 x0 k26 nf3 t22 I J))
def f_Suite_roomFor (x0 : Int32) (I : MI) (J : MJ) (Q : Int32 → MI → MJ → Prop) : Prop :=
  ∃ n, f_Suite_roomFor_L3 x0 (fun (z26_x1 : Int32) (I : MI) (J : MJ) => Q z26_x1 I J) n 16 I J
set_option maxRecDepth 100000 in
set_option maxHeartbeats 4000000 in
theorem w_Suite_roomFor_L3 {Γ : Ctx} {Q : Int32 → MI → MJ → Prop} {x0 : Int32} {k26 : Int32 → MI → MJ → Prop} (X : Cx Γ cX6_roomFor 2 RX6 0) (Y : Rt Γ (Pi Q) (Option.some Jvm.ClassFile.FieldType.int))  (hk26 : ∀ (x1 : Int32) (I : MI) (J : MJ), k26 x1 I J → Wp Γ 2 26 [(1, .int x1)] [] I J) : ∀ (n : Nat) (x1 : Int32) (I : MI) (J : MJ), f_Suite_roomFor_L3 x0 k26 n x1 I J → Wp Γ 2 3 [(0, .int x0), (1, .int x1)] [] I J := by
  intro n
  induction n with
  | zero => intro x1 I J h; exact absurd h (by simp [f_Suite_roomFor_L3])
  | succ n ih =>
  intro x1 I J h
  unfold f_Suite_roomFor_L3 at h
  refine wp_iload_n X dX6_roomFor_3 1 rfl ?_
  refine wp_sipush X dX6_roomFor_4 si_2048 ?_
  refine wp_icmp_ge (tgt := 26) X dX6_roomFor_7 (by decide) (fun hc => ?_) (fun hc => ?_)
  · have h := ite_t h hc
    refine wp_sub X [1] rfl ?_
    exact hk26 _ _ _ h
  · have h := ite_f h hc
    refine wp_iload_n X dX6_roomFor_10 1 rfl ?_
    refine wp_iload_n X dX6_roomFor_11 0 rfl ?_
    refine wp_iload_n X dX6_roomFor_12 0 rfl ?_
    refine wp_iconst X dX6_roomFor_13 ic_2 ?_
    refine wp_idiv X dX6_roomFor_14 (by decide) ?_
    refine wp_iadd X dX6_roomFor_15 ?_
    refine wp_icmp_ge (tgt := 26) X dX6_roomFor_16 (by decide) (fun hc => ?_) (fun hc => ?_)
    · have h := ite_t h hc
      refine wp_sub X [1] rfl ?_
      exact hk26 _ _ _ h
    · have h := ite_f h hc
      refine wp_iload_n X dX6_roomFor_19 1 rfl ?_
      refine wp_iconst X dX6_roomFor_20 ic_2 ?_
      refine wp_imul X dX6_roomFor_21 ?_
      refine wp_topi (fun t22 et22 => ?_)
      have h := h t22 et22
      refine wp_istore_n (L' := [(1, .int t22), (0, .int x0)]) X dX6_roomFor_22 rfl (by decide) rfl ?_
      refine wp_goto (tgt := 3) X dX6_roomFor_23 (by decide) ?_
      refine wp_sub X [1, 0] rfl ?_
      exact ih _ _ _ h

set_option maxRecDepth 100000 in
set_option maxHeartbeats 4000000 in
theorem w_Suite_roomFor_b0 {Γ : Ctx} {Q : Int32 → MI → MJ → Prop} {x0 : Int32}  (X : Cx Γ cX6_roomFor 2 RX6 0) (Y : Rt Γ (Pi Q) (Option.some Jvm.ClassFile.FieldType.int))   {I : MI} {J : MJ} (h : f_Suite_roomFor x0 I J Q) : Wp Γ 2 0 [(0, .int x0)] [] I J := by
  unfold f_Suite_roomFor at h
  refine wp_bipush X dX6_roomFor_0 bi_16 ?_
  refine wp_istore_n (L' := [(1, .int 16), (0, .int x0)]) X dX6_roomFor_2 rfl (by decide) rfl ?_
  obtain ⟨n, h⟩ := h
  refine wp_sub X [1, 0] rfl ?_
  refine w_Suite_roomFor_L3 X Y  ?_ n _ _ _ h
  · intro z26_x1 I J h
    refine wp_iload_n X dX6_roomFor_26 0 rfl ?_
    exact wp_iret X Y dX6_roomFor_27 ⟨_, rfl, h⟩

theorem c_Suite_roomFor {l : Launch} {g : GE} (hg : Inj g) {I : MI} {J : MJ} {Q : Int32 → MI → MJ → Prop} {x0 : Int32}  (h : f_Suite_roomFor x0 I J Q) : Cm l g yX6_roomFor cX6_roomFor 2 (Option.some Jvm.ClassFile.FieldType.int) 0 [.int x0] I J (Pi Q) := by
  refine Cm.of (As := fun ad => [.int x0]) hg pn_X6 (Nat.le_of_ble_eq_true rfl) ?_
  exact (fun Γ _ _ X Y => w_Suite_roomFor_b0 X Y  h)
theorem cs_Suite_roomFor {Γ : Ctx} {cc : ByteArray} {nL d pc index : Nat} {own : String} {L : List (Nat × Value)} {rest : List Value} {I : MI} {J : MJ} {Q : Int32 → MI → MJ → Prop} {x0 : Int32} (X : Cx Γ cc nL own d) (hd : decode cc pc = .ok (.invokestatic index, 3)) (hlink : Cond.methodLink own index yX6_roomFor ∈ TT)  (h : f_Suite_roomFor x0 I J Q) (hrest : (rest.map fun v => v.category).sum ≤ 8) (hdd : 0 + 1 ≤ d) (kk : ∀ (r : Int32) (I' : MI) (J' : MJ), Q r I' J' → Wp Γ nL (pc + 3) L (.int r :: rest) I' J') : Wp Γ nL pc L (.int x0 :: rest) I J :=
  wp_callS (As := [.int x0]) (rest := rest) X hd hlink mv_X6_roomFor (c_Suite_roomFor X.inj  h) rfl rfl hrest hdd (fun v I' J' hv => by obtain ⟨r, rfl, hq⟩ := hv; exact kk r I' J' hq)
theorem dX6_isNew_0 : decode cX6_isNew 0 = .ok (.lload_n 1, 1) := by decide +kernel
theorem dX6_isNew_1 : decode cX6_isNew 1 = .ok (.ldc2_w 101, 3) := by decide +kernel
theorem dX6_isNew_4 : decode cX6_isNew 4 = .ok (.lmul, 1) := by decide +kernel
theorem dX6_isNew_5 : decode cX6_isNew 5 = .ok (.bipush 40, 2) := by decide +kernel
theorem dX6_isNew_7 : decode cX6_isNew 7 = .ok (.lushr, 1) := by decide +kernel
theorem dX6_isNew_8 : decode cX6_isNew 8 = .ok (.l2i, 1) := by decide +kernel
theorem dX6_isNew_9 : decode cX6_isNew 9 = .ok (.iload_n 3, 1) := by decide +kernel
theorem dX6_isNew_10 : decode cX6_isNew 10 = .ok (.iconst 1, 1) := by decide +kernel
theorem dX6_isNew_11 : decode cX6_isNew 11 = .ok (.isub, 1) := by decide +kernel
theorem dX6_isNew_12 : decode cX6_isNew 12 = .ok (.iand, 1) := by decide +kernel
theorem dX6_isNew_13 : decode cX6_isNew 13 = .ok (.istore 4, 2) := by decide +kernel
theorem dX6_isNew_15 : decode cX6_isNew 15 = .ok (.iconst 0, 1) := by decide +kernel
theorem dX6_isNew_16 : decode cX6_isNew 16 = .ok (.istore 5, 2) := by decide +kernel
theorem dX6_isNew_18 : decode cX6_isNew 18 = .ok (.iload 5, 2) := by decide +kernel
theorem dX6_isNew_20 : decode cX6_isNew 20 = .ok (.iload_n 3, 1) := by decide +kernel
theorem dX6_isNew_21 : decode cX6_isNew 21 = .ok (.if_icmp .ge 55, 3) := by decide +kernel
theorem dX6_isNew_24 : decode cX6_isNew 24 = .ok (.aload_n 0, 1) := by decide +kernel
theorem dX6_isNew_25 : decode cX6_isNew 25 = .ok (.getfield 31, 3) := by decide +kernel
theorem dX6_isNew_28 : decode cX6_isNew 28 = .ok (.iload 4, 2) := by decide +kernel
theorem dX6_isNew_30 : decode cX6_isNew 30 = .ok (.laload, 1) := by decide +kernel
theorem dX6_isNew_31 : decode cX6_isNew 31 = .ok (.lconst 0, 1) := by decide +kernel
theorem dX6_isNew_32 : decode cX6_isNew 32 = .ok (.lcmp, 1) := by decide +kernel
theorem dX6_isNew_33 : decode cX6_isNew 33 = .ok (.ifCond .ne 13, 3) := by decide +kernel
theorem dX6_isNew_36 : decode cX6_isNew 36 = .ok (.aload_n 0, 1) := by decide +kernel
theorem dX6_isNew_37 : decode cX6_isNew 37 = .ok (.getfield 31, 3) := by decide +kernel
theorem dX6_isNew_40 : decode cX6_isNew 40 = .ok (.iload 4, 2) := by decide +kernel
theorem dX6_isNew_42 : decode cX6_isNew 42 = .ok (.lload_n 1, 1) := by decide +kernel
theorem dX6_isNew_43 : decode cX6_isNew 43 = .ok (.lastore, 1) := by decide +kernel
theorem dX6_isNew_44 : decode cX6_isNew 44 = .ok (.iconst 1, 1) := by decide +kernel
theorem dX6_isNew_45 : decode cX6_isNew 45 = .ok (.ireturn, 1) := by decide +kernel
theorem dX6_isNew_46 : decode cX6_isNew 46 = .ok (.aload_n 0, 1) := by decide +kernel
theorem dX6_isNew_47 : decode cX6_isNew 47 = .ok (.getfield 31, 3) := by decide +kernel
theorem dX6_isNew_50 : decode cX6_isNew 50 = .ok (.iload 4, 2) := by decide +kernel
theorem dX6_isNew_52 : decode cX6_isNew 52 = .ok (.laload, 1) := by decide +kernel
theorem dX6_isNew_53 : decode cX6_isNew 53 = .ok (.lload_n 1, 1) := by decide +kernel
theorem dX6_isNew_54 : decode cX6_isNew 54 = .ok (.lcmp, 1) := by decide +kernel
theorem dX6_isNew_55 : decode cX6_isNew 55 = .ok (.ifCond .ne 5, 3) := by decide +kernel
theorem dX6_isNew_58 : decode cX6_isNew 58 = .ok (.iconst 0, 1) := by decide +kernel
theorem dX6_isNew_59 : decode cX6_isNew 59 = .ok (.ireturn, 1) := by decide +kernel
theorem dX6_isNew_60 : decode cX6_isNew 60 = .ok (.iload 4, 2) := by decide +kernel
theorem dX6_isNew_62 : decode cX6_isNew 62 = .ok (.iconst 1, 1) := by decide +kernel
theorem dX6_isNew_63 : decode cX6_isNew 63 = .ok (.iadd, 1) := by decide +kernel
theorem dX6_isNew_64 : decode cX6_isNew 64 = .ok (.iload_n 3, 1) := by decide +kernel
theorem dX6_isNew_65 : decode cX6_isNew 65 = .ok (.iconst 1, 1) := by decide +kernel
theorem dX6_isNew_66 : decode cX6_isNew 66 = .ok (.isub, 1) := by decide +kernel
theorem dX6_isNew_67 : decode cX6_isNew 67 = .ok (.iand, 1) := by decide +kernel
theorem dX6_isNew_68 : decode cX6_isNew 68 = .ok (.istore 4, 2) := by decide +kernel
theorem dX6_isNew_70 : decode cX6_isNew 70 = .ok (.iinc 5 1, 3) := by decide +kernel
theorem dX6_isNew_73 : decode cX6_isNew 73 = .ok (.goto (-55), 3) := by decide +kernel
theorem dX6_isNew_76 : decode cX6_isNew 76 = .ok (.iconst 0, 1) := by decide +kernel
theorem dX6_isNew_77 : decode cX6_isNew 77 = .ok (.ireturn, 1) := by decide +kernel
def f_Suite_isNew_L18 (x1 : Int64) (x3 : Int32) (k36 : Int32 → MI → MJ → Prop) (k58 : MI → MJ → Prop) (k76 : MI → MJ → Prop) : Nat → Int32 → Int32 → MI → MJ → Prop
  | 0, _, _, _, _ => False
  | nf18 + 1, x4, x5, I, J =>
  (if x3 ≤ x5 then k76 I J else vp_in x4 2048 ∧ (if (J 36 x4.toNatClampNeg) = 0 then k36 x4 I J else vp_in x4 2048 ∧ (if (J 36 x4.toNatClampNeg) = x1 then k58 I J else ∀ t68 : Int32, t68 = (x4 + 1) &&& (x3 - 1) → ∀ t70 : Int32, t70 = x5 + 1 → f_Suite_isNew_L18 x1 x3 k36 k58 k76 nf18 t68 t70 I J)))
def f_Suite_isNew (x1 : Int64) (x3 : Int32) (I : MI) (J : MJ) (Q : Int32 → MI → MJ → Prop) : Prop :=
  ∀ t13 : Int32, t13 = ((((x1 * (-7046029254386353131)).toUInt64 >>> ((40 : Int32).toInt64.toUInt64 &&& Int64.toUInt64 63)).toInt64).toInt32) &&& (x3 - 1) → ∃ n, f_Suite_isNew_L18 x1 x3 (fun (z36_x4 : Int32) (I : MI) (J : MJ) => vp_in z36_x4 2048 ∧ ∀ J43 : MJ, J43 = sJ J 36 (vp_updL (J 36) z36_x4.toNatClampNeg x1) → Q 1 I J43) (fun (I : MI) (J : MJ) => Q 0 I J) (fun (I : MI) (J : MJ) => Q 0 I J) n t13 0 I J
set_option maxRecDepth 100000 in
set_option maxHeartbeats 4000000 in
theorem w_Suite_isNew_L18 {Γ : Ctx} {Q : Int32 → MI → MJ → Prop} {x1 : Int64} {x3 : Int32} {k36 : Int32 → MI → MJ → Prop} {k58 : MI → MJ → Prop} {k76 : MI → MJ → Prop} (X : Cx Γ cX6_isNew 6 RX6 0) (Y : Rt Γ (Pi Q) (Option.some Jvm.ClassFile.FieldType.boolean))  (hk36 : ∀ (x4 : Int32) (I : MI) (J : MJ), k36 x4 I J → Wp Γ 6 36 [(0, .ref (ad Γ 26)), (1, .long x1), (4, .int x4)] [] I J) (hk58 : ∀ (I : MI) (J : MJ), k58 I J → Wp Γ 6 58 [] [] I J) (hk76 : ∀ (I : MI) (J : MJ), k76 I J → Wp Γ 6 76 [] [] I J) : ∀ (n : Nat) (x4 : Int32) (x5 : Int32) (I : MI) (J : MJ), f_Suite_isNew_L18 x1 x3 k36 k58 k76 n x4 x5 I J → Wp Γ 6 18 [(0, .ref (ad Γ 26)), (1, .long x1), (3, .int x3), (4, .int x4), (5, .int x5)] [] I J := by
  intro n
  induction n with
  | zero => intro x4 x5 I J h; exact absurd h (by simp [f_Suite_isNew_L18])
  | succ n ih =>
  intro x4 x5 I J h
  unfold f_Suite_isNew_L18 at h
  refine wp_iload X dX6_isNew_18 4 rfl ?_
  refine wp_iload_n X dX6_isNew_20 2 rfl ?_
  refine wp_icmp_ge (tgt := 76) X dX6_isNew_21 (by decide) (fun hc => ?_) (fun hc => ?_)
  · have h := ite_t h hc
    refine wp_sub X [] rfl ?_
    exact hk76 _ _ h
  · have h := ite_f h hc
    refine wp_aload_n X dX6_isNew_24 0 rfl ?_
    refine gf_X6_31 (o' := 36) X sh_26 rfl dX6_isNew_25 ?_
    refine wp_iload X dX6_isNew_28 3 rfl ?_
    obtain ⟨hb30, h⟩ := h
    refine wp_lald X sh_36 hb30 dX6_isNew_30 ?_
    refine wp_lconst X dX6_isNew_31 lc_0 ?_
    refine wp_lcmp_ne (tgt := 46) X dX6_isNew_32 dX6_isNew_33 (by decide) (fun hc => ?_) (fun hc => ?_)
    · have h := ite_f h hc
      refine wp_aload_n X dX6_isNew_46 0 rfl ?_
      refine gf_X6_31 (o' := 36) X sh_26 rfl dX6_isNew_47 ?_
      refine wp_iload X dX6_isNew_50 3 rfl ?_
      obtain ⟨hb52, h⟩ := h
      refine wp_lald X sh_36 hb52 dX6_isNew_52 ?_
      refine wp_lload_n X dX6_isNew_53 1 rfl ?_
      refine wp_lcmp_ne (tgt := 60) X dX6_isNew_54 dX6_isNew_55 (by decide) (fun hc => ?_) (fun hc => ?_)
      · have h := ite_f h hc
        refine wp_iload X dX6_isNew_60 3 rfl ?_
        refine wp_iconst X dX6_isNew_62 ic_1 ?_
        refine wp_iadd X dX6_isNew_63 ?_
        refine wp_iload_n X dX6_isNew_64 2 rfl ?_
        refine wp_iconst X dX6_isNew_65 ic_1 ?_
        refine wp_isub X dX6_isNew_66 ?_
        refine wp_iand X dX6_isNew_67 ?_
        refine wp_topi (fun t68 et68 => ?_)
        have h := h t68 et68
        refine wp_istore (L' := [(4, .int t68), (0, .ref (ad Γ 26)), (1, .long x1), (3, .int x3), (5, .int x5)]) X dX6_isNew_68 (by decide) rfl ?_
        obtain ⟨t70, et70⟩ : ∃ y : Int32, y = x5 + 1 := ⟨_, rfl⟩
        have h := h t70 et70
        refine wp_iinc (L' := [(5, .int t70), (4, .int t68), (0, .ref (ad Γ 26)), (1, .long x1), (3, .int x3)]) X dX6_isNew_70 4 rfl (ii_1 et70) (by decide) rfl ?_
        refine wp_goto (tgt := 18) X dX6_isNew_73 (by decide) ?_
        refine wp_sub X [2, 3, 4, 1, 0] rfl ?_
        exact ih _ _ _ _ h
      · have h := ite_t h hc
        refine wp_sub X [] rfl ?_
        exact hk58 _ _ h
    · have h := ite_t h hc
      refine wp_sub X [0, 1, 3] rfl ?_
      exact hk36 _ _ _ h

set_option maxRecDepth 100000 in
set_option maxHeartbeats 4000000 in
theorem w_Suite_isNew_b0 {Γ : Ctx} {Q : Int32 → MI → MJ → Prop} {x1 : Int64} {x3 : Int32}  (X : Cx Γ cX6_isNew 6 RX6 0) (Y : Rt Γ (Pi Q) (Option.some Jvm.ClassFile.FieldType.boolean))   {I : MI} {J : MJ} (h : f_Suite_isNew x1 x3 I J Q) : Wp Γ 6 0 [(0, .ref (ad Γ 26)), (1, .long x1), (3, .int x3)] [] I J := by
  unfold f_Suite_isNew at h
  refine wp_lload_n X dX6_isNew_0 1 rfl ?_
  refine wp_ldc2 X kl_X6_101 dX6_isNew_1 ?_
  refine wp_lmul X dX6_isNew_4 ?_
  refine wp_bipush X dX6_isNew_5 bi_40 ?_
  refine wp_lushr X dX6_isNew_7 ?_
  refine wp_l2i X dX6_isNew_8 ?_
  refine wp_iload_n X dX6_isNew_9 2 rfl ?_
  refine wp_iconst X dX6_isNew_10 ic_1 ?_
  refine wp_isub X dX6_isNew_11 ?_
  refine wp_iand X dX6_isNew_12 ?_
  refine wp_topi (fun t13 et13 => ?_)
  have h := h t13 et13
  refine wp_istore (L' := [(4, .int t13), (0, .ref (ad Γ 26)), (1, .long x1), (3, .int x3)]) X dX6_isNew_13 (by decide) rfl ?_
  refine wp_iconst X dX6_isNew_15 ic_0 ?_
  refine wp_istore (L' := [(5, .int 0), (4, .int t13), (0, .ref (ad Γ 26)), (1, .long x1), (3, .int x3)]) X dX6_isNew_16 (by decide) rfl ?_
  obtain ⟨n, h⟩ := h
  refine wp_sub X [2, 3, 4, 1, 0] rfl ?_
  refine w_Suite_isNew_L18 X Y  ?_ ?_ ?_ n _ _ _ _ h
  · intro z36_x4 I J h
    refine wp_aload_n X dX6_isNew_36 0 rfl ?_
    refine gf_X6_31 (o' := 36) X sh_26 rfl dX6_isNew_37 ?_
    refine wp_iload X dX6_isNew_40 2 rfl ?_
    refine wp_lload_n X dX6_isNew_42 1 rfl ?_
    obtain ⟨hb43, h⟩ := h
    refine wp_last X sh_36 hb43 dX6_isNew_43 ?_
    refine wp_memJ (fun J43 eJ43 => ?_)
    have h := h J43 eJ43
    refine wp_iconst X dX6_isNew_44 ic_1 ?_
    exact wp_zret X Y dX6_isNew_45 (by decide) ⟨_, rfl, h⟩
  · intro I J h
    refine wp_iconst X dX6_isNew_58 ic_0 ?_
    exact wp_zret X Y dX6_isNew_59 (by decide) ⟨_, rfl, h⟩
  · intro I J h
    refine wp_iconst X dX6_isNew_76 ic_0 ?_
    exact wp_zret X Y dX6_isNew_77 (by decide) ⟨_, rfl, h⟩

theorem c_Suite_isNew {l : Launch} {g : GE} (hg : Inj g) {I : MI} {J : MJ} {Q : Int32 → MI → MJ → Prop} {x1 : Int64} {x3 : Int32}  (h : f_Suite_isNew x1 x3 I J Q) : Cm l g yX6_isNew cX6_isNew 6 (Option.some Jvm.ClassFile.FieldType.boolean) 0 [.ref (g.1 26), .long x1, .int x3] I J (Pi Q) := by
  refine Cm.of (As := fun ad => [.ref (ad 26), .long x1, .int x3]) hg pn_X6 (Nat.le_of_ble_eq_true rfl) ?_
  exact (fun Γ _ _ X Y => w_Suite_isNew_b0 X Y  h)
theorem cv_Suite_isNew {Γ : Ctx} {cc : ByteArray} {nL d pc index : Nat} {own : String} {L : List (Nat × Value)} {rest : List Value} {I : MI} {J : MJ} {Q : Int32 → MI → MJ → Prop} {x1 : Int64} {x3 : Int32} (X : Cx Γ cc nL own d) (hd : decode cc pc = .ok (.invokevirtual index, 3)) (hlink : Cond.methodLink own index yX6_isNew ∈ TT)  (h : f_Suite_isNew x1 x3 I J Q) (hrest : (rest.map fun v => v.category).sum ≤ 8) (hdd : 0 + 1 ≤ d) (kk : ∀ (r : Int32) (I' : MI) (J' : MJ), Q r I' J' → Wp Γ nL (pc + 3) L (.int r :: rest) I' J') : Wp Γ nL pc L (.int x3 :: .long x1 :: .ref (ad Γ 26) :: rest) I J :=
  wp_callV (As := [.long x1, .int x3]) (rest := rest) (T := TX6) (N := 9) X hd hlink mv_X6_isNew sh_26 (by decide) rfl (c_Suite_isNew X.inj  h) rfl rfl hrest hdd (fun v I' J' hv => by obtain ⟨r, rfl, hq⟩ := hv; exact kk r I' J' hq)
theorem dX6_countWords_0 : decode cX6_countWords 0 = .ok (.aload_n 0, 1) := by decide +kernel
theorem dX6_countWords_1 : decode cX6_countWords 1 = .ok (.getfield 60, 3) := by decide +kernel
theorem dX6_countWords_4 : decode cX6_countWords 4 = .ok (.aload_n 0, 1) := by decide +kernel
theorem dX6_countWords_5 : decode cX6_countWords 5 = .ok (.getfield 81, 3) := by decide +kernel
theorem dX6_countWords_8 : decode cX6_countWords 8 = .ok (.imul, 1) := by decide +kernel
theorem dX6_countWords_9 : decode cX6_countWords 9 = .ok (.invokestatic 93, 3) := by decide +kernel
theorem dX6_countWords_12 : decode cX6_countWords 12 = .ok (.istore_n 1, 1) := by decide +kernel
theorem dX6_countWords_13 : decode cX6_countWords 13 = .ok (.iconst 0, 1) := by decide +kernel
theorem dX6_countWords_14 : decode cX6_countWords 14 = .ok (.istore_n 2, 1) := by decide +kernel
theorem dX6_countWords_15 : decode cX6_countWords 15 = .ok (.iload_n 2, 1) := by decide +kernel
theorem dX6_countWords_16 : decode cX6_countWords 16 = .ok (.iload_n 1, 1) := by decide +kernel
theorem dX6_countWords_17 : decode cX6_countWords 17 = .ok (.if_icmp .ge 16, 3) := by decide +kernel
theorem dX6_countWords_20 : decode cX6_countWords 20 = .ok (.aload_n 0, 1) := by decide +kernel
theorem dX6_countWords_21 : decode cX6_countWords 21 = .ok (.getfield 31, 3) := by decide +kernel
theorem dX6_countWords_24 : decode cX6_countWords 24 = .ok (.iload_n 2, 1) := by decide +kernel
theorem dX6_countWords_25 : decode cX6_countWords 25 = .ok (.lconst 0, 1) := by decide +kernel
theorem dX6_countWords_26 : decode cX6_countWords 26 = .ok (.lastore, 1) := by decide +kernel
theorem dX6_countWords_27 : decode cX6_countWords 27 = .ok (.iinc 2 1, 3) := by decide +kernel
theorem dX6_countWords_30 : decode cX6_countWords 30 = .ok (.goto (-15), 3) := by decide +kernel
theorem dX6_countWords_33 : decode cX6_countWords 33 = .ok (.iconst 0, 1) := by decide +kernel
theorem dX6_countWords_34 : decode cX6_countWords 34 = .ok (.istore_n 2, 1) := by decide +kernel
theorem dX6_countWords_35 : decode cX6_countWords 35 = .ok (.iconst 0, 1) := by decide +kernel
theorem dX6_countWords_36 : decode cX6_countWords 36 = .ok (.istore_n 3, 1) := by decide +kernel
theorem dX6_countWords_37 : decode cX6_countWords 37 = .ok (.iload_n 3, 1) := by decide +kernel
theorem dX6_countWords_38 : decode cX6_countWords 38 = .ok (.aload_n 0, 1) := by decide +kernel
theorem dX6_countWords_39 : decode cX6_countWords 39 = .ok (.getfield 60, 3) := by decide +kernel
theorem dX6_countWords_42 : decode cX6_countWords 42 = .ok (.if_icmp .ge 54, 3) := by decide +kernel
theorem dX6_countWords_45 : decode cX6_countWords 45 = .ok (.iconst 0, 1) := by decide +kernel
theorem dX6_countWords_46 : decode cX6_countWords 46 = .ok (.istore 4, 2) := by decide +kernel
theorem dX6_countWords_48 : decode cX6_countWords 48 = .ok (.iload 4, 2) := by decide +kernel
theorem dX6_countWords_50 : decode cX6_countWords 50 = .ok (.aload_n 0, 1) := by decide +kernel
theorem dX6_countWords_51 : decode cX6_countWords 51 = .ok (.getfield 81, 3) := by decide +kernel
theorem dX6_countWords_54 : decode cX6_countWords 54 = .ok (.if_icmp .ge 36, 3) := by decide +kernel
theorem dX6_countWords_57 : decode cX6_countWords 57 = .ok (.aload_n 0, 1) := by decide +kernel
theorem dX6_countWords_58 : decode cX6_countWords 58 = .ok (.aload_n 0, 1) := by decide +kernel
theorem dX6_countWords_59 : decode cX6_countWords 59 = .ok (.getfield 22, 3) := by decide +kernel
theorem dX6_countWords_62 : decode cX6_countWords 62 = .ok (.iload_n 3, 1) := by decide +kernel
theorem dX6_countWords_63 : decode cX6_countWords 63 = .ok (.laload, 1) := by decide +kernel
theorem dX6_countWords_64 : decode cX6_countWords 64 = .ok (.aload_n 0, 1) := by decide +kernel
theorem dX6_countWords_65 : decode cX6_countWords 65 = .ok (.getfield 28, 3) := by decide +kernel
theorem dX6_countWords_68 : decode cX6_countWords 68 = .ok (.iload 4, 2) := by decide +kernel
theorem dX6_countWords_70 : decode cX6_countWords 70 = .ok (.laload, 1) := by decide +kernel
theorem dX6_countWords_71 : decode cX6_countWords 71 = .ok (.invokestatic 77, 3) := by decide +kernel
theorem dX6_countWords_74 : decode cX6_countWords 74 = .ok (.iload_n 1, 1) := by decide +kernel
theorem dX6_countWords_75 : decode cX6_countWords 75 = .ok (.invokevirtual 97, 3) := by decide +kernel
theorem dX6_countWords_78 : decode cX6_countWords 78 = .ok (.ifCond .eq 6, 3) := by decide +kernel
theorem dX6_countWords_81 : decode cX6_countWords 81 = .ok (.iinc 2 1, 3) := by decide +kernel
theorem dX6_countWords_84 : decode cX6_countWords 84 = .ok (.iinc 4 1, 3) := by decide +kernel
theorem dX6_countWords_87 : decode cX6_countWords 87 = .ok (.goto (-39), 3) := by decide +kernel
theorem dX6_countWords_90 : decode cX6_countWords 90 = .ok (.iinc 3 1, 3) := by decide +kernel
theorem dX6_countWords_93 : decode cX6_countWords 93 = .ok (.goto (-56), 3) := by decide +kernel
theorem dX6_countWords_96 : decode cX6_countWords 96 = .ok (.iload_n 2, 1) := by decide +kernel
theorem dX6_countWords_97 : decode cX6_countWords 97 = .ok (.ireturn, 1) := by decide +kernel
def f_Suite_countWords_b84 (x2 : Int32) (x4 : Int32) (kh : Int32 → Int32 → MI → MJ → Prop) (I : MI) (J : MJ) : Prop :=
  ∀ t84 : Int32, t84 = x4 + 1 → kh x2 t84 I J
def f_Suite_countWords_L48 (x1 : Int32) (x3 : Int32) (k90 : Int32 → MI → MJ → Prop) : Nat → Int32 → Int32 → MI → MJ → Prop
  | 0, _, _, _, _ => False
  | nf48 + 1, x2, x4, I, J =>
  (if (I 26 3) ≤ x4 then k90 x2 I J else vp_in x3 175 ∧ vp_in x4 6 ∧ f_Words_joined (J 33 x3.toNatClampNeg) (J 35 x4.toNatClampNeg) I J (fun r71 I71 J71 => f_Suite_isNew r71 x1 I71 J71 (fun r75 I75 J75 => (if r75 = 0 then f_Suite_countWords_b84 x2 x4 (f_Suite_countWords_L48 x1 x3 k90 nf48) I75 J75 else ∀ t81 : Int32, t81 = x2 + 1 → f_Suite_countWords_b84 t81 x4 (f_Suite_countWords_L48 x1 x3 k90 nf48) I75 J75))))
def f_Suite_countWords_L37 (x1 : Int32) (k96 : Int32 → MI → MJ → Prop) : Nat → Int32 → Int32 → MI → MJ → Prop
  | 0, _, _, _, _ => False
  | nf37 + 1, x2, x3, I, J =>
  (if (I 26 1) ≤ x3 then k96 x2 I J else ∃ n, f_Suite_countWords_L48 x1 x3 (fun (z90_x2 : Int32) (I : MI) (J : MJ) => ∀ t90 : Int32, t90 = x3 + 1 → f_Suite_countWords_L37 x1 k96 nf37 z90_x2 t90 I J) n x2 0 I J)
def f_Suite_countWords_L15 (x1 : Int32) (k33 : MI → MJ → Prop) : Nat → Int32 → MI → MJ → Prop
  | 0, _, _, _ => False
  | nf15 + 1, x2, I, J =>
  (if x1 ≤ x2 then k33 I J else vp_in x2 2048 ∧ ∀ J26 : MJ, J26 = sJ J 36 (vp_updL (J 36) x2.toNatClampNeg 0) → ∀ t27 : Int32, t27 = x2 + 1 → f_Suite_countWords_L15 x1 k33 nf15 t27 I J26)
def f_Suite_countWords (I : MI) (J : MJ) (Q : Int32 → MI → MJ → Prop) : Prop :=
  f_Suite_roomFor ((I 26 1) * (I 26 3)) I J (fun r9 I9 J9 => ∃ n, f_Suite_countWords_L15 r9 (fun (I : MI) (J : MJ) => ∃ n, f_Suite_countWords_L37 r9 (fun (z96_x2 : Int32) (I : MI) (J : MJ) => Q z96_x2 I J) n 0 0 I J) n 0 I9 J9)
set_option maxRecDepth 100000 in
set_option maxHeartbeats 4000000 in
theorem w_Suite_countWords_b84 {Γ : Ctx} {Q : Int32 → MI → MJ → Prop} {x1 : Int32} {x2 : Int32} {x3 : Int32} {x4 : Int32} {kh : Int32 → Int32 → MI → MJ → Prop} (X : Cx Γ cX6_countWords 5 RX6 2) (Y : Rt Γ (Pi Q) (Option.some Jvm.ClassFile.FieldType.int))  (hkh : ∀ (x2 : Int32) (x4 : Int32) (I : MI) (J : MJ), kh x2 x4 I J → Wp Γ 5 48 [(0, .ref (ad Γ 26)), (1, .int x1), (2, .int x2), (3, .int x3), (4, .int x4)] [] I J) {I : MI} {J : MJ} (h : f_Suite_countWords_b84 x2 x4 kh I J) : Wp Γ 5 84 [(0, .ref (ad Γ 26)), (1, .int x1), (2, .int x2), (3, .int x3), (4, .int x4)] [] I J := by
  unfold f_Suite_countWords_b84 at h
  obtain ⟨t84, et84⟩ : ∃ y : Int32, y = x4 + 1 := ⟨_, rfl⟩
  have h := h t84 et84
  refine wp_iinc (L' := [(4, .int t84), (0, .ref (ad Γ 26)), (1, .int x1), (2, .int x2), (3, .int x3)]) X dX6_countWords_84 4 rfl (ii_1 et84) (by decide) rfl ?_
  refine wp_goto (tgt := 48) X dX6_countWords_87 (by decide) ?_
  refine wp_sub X [1, 2, 3, 4, 0] rfl ?_
  exact hkh _ _ _ _ h

set_option maxRecDepth 100000 in
set_option maxHeartbeats 4000000 in
theorem w_Suite_countWords_L48 {Γ : Ctx} {Q : Int32 → MI → MJ → Prop} {x1 : Int32} {x3 : Int32} {k90 : Int32 → MI → MJ → Prop} (X : Cx Γ cX6_countWords 5 RX6 2) (Y : Rt Γ (Pi Q) (Option.some Jvm.ClassFile.FieldType.int))  (hk90 : ∀ (x2 : Int32) (I : MI) (J : MJ), k90 x2 I J → Wp Γ 5 90 [(0, .ref (ad Γ 26)), (1, .int x1), (2, .int x2), (3, .int x3)] [] I J) : ∀ (n : Nat) (x2 : Int32) (x4 : Int32) (I : MI) (J : MJ), f_Suite_countWords_L48 x1 x3 k90 n x2 x4 I J → Wp Γ 5 48 [(0, .ref (ad Γ 26)), (1, .int x1), (2, .int x2), (3, .int x3), (4, .int x4)] [] I J := by
  intro n
  induction n with
  | zero => intro x2 x4 I J h; exact absurd h (by simp [f_Suite_countWords_L48])
  | succ n ih =>
  intro x2 x4 I J h
  unfold f_Suite_countWords_L48 at h
  refine wp_iload X dX6_countWords_48 4 rfl ?_
  refine wp_aload_n X dX6_countWords_50 0 rfl ?_
  refine gf_X6_81 X sh_26 dX6_countWords_51 ?_
  refine wp_icmp_ge (tgt := 90) X dX6_countWords_54 (by decide) (fun hc => ?_) (fun hc => ?_)
  · have h := ite_t h hc
    refine wp_sub X [0, 1, 2, 3] rfl ?_
    exact hk90 _ _ _ h
  · have h := ite_f h hc
    refine wp_aload_n X dX6_countWords_57 0 rfl ?_
    refine wp_aload_n X dX6_countWords_58 0 rfl ?_
    refine gf_X6_22 (o' := 33) X sh_26 rfl dX6_countWords_59 ?_
    refine wp_iload_n X dX6_countWords_62 3 rfl ?_
    obtain ⟨hb63, h⟩ := h
    refine wp_lald X sh_33 hb63 dX6_countWords_63 ?_
    refine wp_aload_n X dX6_countWords_64 0 rfl ?_
    refine gf_X6_28 (o' := 35) X sh_26 rfl dX6_countWords_65 ?_
    refine wp_iload X dX6_countWords_68 4 rfl ?_
    obtain ⟨hb70, h⟩ := h
    refine wp_lald X sh_35 hb70 dX6_countWords_70 ?_
    refine cs_Words_joined X dX6_countWords_71 ml_X6_77  h (Nat.le_of_ble_eq_true rfl) (by decide) (fun r71 I71 J71 h => ?_)
    refine wp_iload_n X dX6_countWords_74 1 rfl ?_
    refine cv_Suite_isNew X dX6_countWords_75 ml_X6_97  h (Nat.le_of_ble_eq_true rfl) (by decide) (fun r75 I75 J75 h => ?_)
    refine wp_if_eq (tgt := 84) X dX6_countWords_78 (by decide) (fun hc => ?_) (fun hc => ?_)
    · have h := ite_t h hc
      exact w_Suite_countWords_b84 X Y ih h
    · have h := ite_f h hc
      obtain ⟨t81, et81⟩ : ∃ y : Int32, y = x2 + 1 := ⟨_, rfl⟩
      have h := h t81 et81
      refine wp_iinc (L' := [(2, .int t81), (0, .ref (ad Γ 26)), (1, .int x1), (3, .int x3), (4, .int x4)]) X dX6_countWords_81 2 rfl (ii_1 et81) (by decide) rfl ?_
      refine wp_sub X [1, 2, 0, 3, 4] rfl ?_
      exact w_Suite_countWords_b84 X Y ih h

set_option maxRecDepth 100000 in
set_option maxHeartbeats 4000000 in
theorem w_Suite_countWords_L37 {Γ : Ctx} {Q : Int32 → MI → MJ → Prop} {x1 : Int32} {k96 : Int32 → MI → MJ → Prop} (X : Cx Γ cX6_countWords 5 RX6 2) (Y : Rt Γ (Pi Q) (Option.some Jvm.ClassFile.FieldType.int))  (hk96 : ∀ (x2 : Int32) (I : MI) (J : MJ), k96 x2 I J → Wp Γ 5 96 [(2, .int x2)] [] I J) : ∀ (n : Nat) (x2 : Int32) (x3 : Int32) (I : MI) (J : MJ), f_Suite_countWords_L37 x1 k96 n x2 x3 I J → Wp Γ 5 37 [(0, .ref (ad Γ 26)), (1, .int x1), (2, .int x2), (3, .int x3)] [] I J := by
  intro n
  induction n with
  | zero => intro x2 x3 I J h; exact absurd h (by simp [f_Suite_countWords_L37])
  | succ n ih =>
  intro x2 x3 I J h
  unfold f_Suite_countWords_L37 at h
  refine wp_iload_n X dX6_countWords_37 3 rfl ?_
  refine wp_aload_n X dX6_countWords_38 0 rfl ?_
  refine gf_X6_60 X sh_26 dX6_countWords_39 ?_
  refine wp_icmp_ge (tgt := 96) X dX6_countWords_42 (by decide) (fun hc => ?_) (fun hc => ?_)
  · have h := ite_t h hc
    refine wp_sub X [2] rfl ?_
    exact hk96 _ _ _ h
  · have h := ite_f h hc
    refine wp_iconst X dX6_countWords_45 ic_0 ?_
    refine wp_istore (L' := [(4, .int 0), (0, .ref (ad Γ 26)), (1, .int x1), (2, .int x2), (3, .int x3)]) X dX6_countWords_46 (by decide) rfl ?_
    obtain ⟨n, h⟩ := h
    refine wp_sub X [1, 2, 3, 4, 0] rfl ?_
    refine w_Suite_countWords_L48 X Y  ?_ n _ _ _ _ h
    · intro z90_x2 I J h
      obtain ⟨t90, et90⟩ : ∃ y : Int32, y = x3 + 1 := ⟨_, rfl⟩
      have h := h t90 et90
      refine wp_iinc (L' := [(3, .int t90), (0, .ref (ad Γ 26)), (1, .int x1), (2, .int z90_x2)]) X dX6_countWords_90 3 rfl (ii_1 et90) (by decide) rfl ?_
      refine wp_goto (tgt := 37) X dX6_countWords_93 (by decide) ?_
      refine wp_sub X [1, 2, 3, 0] rfl ?_
      exact ih _ _ _ _ h

set_option maxRecDepth 100000 in
set_option maxHeartbeats 4000000 in
theorem w_Suite_countWords_L15 {Γ : Ctx} {Q : Int32 → MI → MJ → Prop} {x1 : Int32} {k33 : MI → MJ → Prop} (X : Cx Γ cX6_countWords 5 RX6 2) (Y : Rt Γ (Pi Q) (Option.some Jvm.ClassFile.FieldType.int))  (hk33 : ∀ (I : MI) (J : MJ), k33 I J → Wp Γ 5 33 [(0, .ref (ad Γ 26)), (1, .int x1)] [] I J) : ∀ (n : Nat) (x2 : Int32) (I : MI) (J : MJ), f_Suite_countWords_L15 x1 k33 n x2 I J → Wp Γ 5 15 [(0, .ref (ad Γ 26)), (1, .int x1), (2, .int x2)] [] I J := by
  intro n
  induction n with
  | zero => intro x2 I J h; exact absurd h (by simp [f_Suite_countWords_L15])
  | succ n ih =>
  intro x2 I J h
  unfold f_Suite_countWords_L15 at h
  refine wp_iload_n X dX6_countWords_15 2 rfl ?_
  refine wp_iload_n X dX6_countWords_16 1 rfl ?_
  refine wp_icmp_ge (tgt := 33) X dX6_countWords_17 (by decide) (fun hc => ?_) (fun hc => ?_)
  · have h := ite_t h hc
    refine wp_sub X [0, 1] rfl ?_
    exact hk33 _ _ h
  · have h := ite_f h hc
    refine wp_aload_n X dX6_countWords_20 0 rfl ?_
    refine gf_X6_31 (o' := 36) X sh_26 rfl dX6_countWords_21 ?_
    refine wp_iload_n X dX6_countWords_24 2 rfl ?_
    refine wp_lconst X dX6_countWords_25 lc_0 ?_
    obtain ⟨hb26, h⟩ := h
    refine wp_last X sh_36 hb26 dX6_countWords_26 ?_
    refine wp_memJ (fun J26 eJ26 => ?_)
    have h := h J26 eJ26
    obtain ⟨t27, et27⟩ : ∃ y : Int32, y = x2 + 1 := ⟨_, rfl⟩
    have h := h t27 et27
    refine wp_iinc (L' := [(2, .int t27), (0, .ref (ad Γ 26)), (1, .int x1)]) X dX6_countWords_27 2 rfl (ii_1 et27) (by decide) rfl ?_
    refine wp_goto (tgt := 15) X dX6_countWords_30 (by decide) ?_
    refine wp_sub X [1, 2, 0] rfl ?_
    exact ih _ _ _ h

set_option maxRecDepth 100000 in
set_option maxHeartbeats 4000000 in
theorem w_Suite_countWords_b0 {Γ : Ctx} {Q : Int32 → MI → MJ → Prop}   (X : Cx Γ cX6_countWords 5 RX6 2) (Y : Rt Γ (Pi Q) (Option.some Jvm.ClassFile.FieldType.int))   {I : MI} {J : MJ} (h : f_Suite_countWords  I J Q) : Wp Γ 5 0 [(0, .ref (ad Γ 26))] [] I J := by
  unfold f_Suite_countWords at h
  refine wp_aload_n X dX6_countWords_0 0 rfl ?_
  refine gf_X6_60 X sh_26 dX6_countWords_1 ?_
  refine wp_aload_n X dX6_countWords_4 0 rfl ?_
  refine gf_X6_81 X sh_26 dX6_countWords_5 ?_
  refine wp_imul X dX6_countWords_8 ?_
  refine cs_Suite_roomFor X dX6_countWords_9 ml_X6_93  h (Nat.le_of_ble_eq_true rfl) (by decide) (fun r9 I9 J9 h => ?_)
  refine wp_istore_n (L' := [(1, .int r9), (0, .ref (ad Γ 26))]) X dX6_countWords_12 rfl (by decide) rfl ?_
  refine wp_iconst X dX6_countWords_13 ic_0 ?_
  refine wp_istore_n (L' := [(2, .int 0), (1, .int r9), (0, .ref (ad Γ 26))]) X dX6_countWords_14 rfl (by decide) rfl ?_
  obtain ⟨n, h⟩ := h
  refine wp_sub X [2, 1, 0] rfl ?_
  refine w_Suite_countWords_L15 X Y  ?_ n _ _ _ h
  · intro I J h
    refine wp_iconst X dX6_countWords_33 ic_0 ?_
    refine wp_istore_n (L' := [(2, .int 0), (0, .ref (ad Γ 26)), (1, .int r9)]) X dX6_countWords_34 rfl (by decide) rfl ?_
    refine wp_iconst X dX6_countWords_35 ic_0 ?_
    refine wp_istore_n (L' := [(3, .int 0), (2, .int 0), (0, .ref (ad Γ 26)), (1, .int r9)]) X dX6_countWords_36 rfl (by decide) rfl ?_
    obtain ⟨n, h⟩ := h
    refine wp_sub X [2, 3, 1, 0] rfl ?_
    refine w_Suite_countWords_L37 X Y  ?_ n _ _ _ _ h
    · intro z96_x2 I J h
      refine wp_iload_n X dX6_countWords_96 0 rfl ?_
      exact wp_iret X Y dX6_countWords_97 ⟨_, rfl, h⟩

theorem c_Suite_countWords {l : Launch} {g : GE} (hg : Inj g) {I : MI} {J : MJ} {Q : Int32 → MI → MJ → Prop}   (h : f_Suite_countWords  I J Q) : Cm l g yX6_countWords cX6_countWords 5 (Option.some Jvm.ClassFile.FieldType.int) 2 [.ref (g.1 26)] I J (Pi Q) := by
  refine Cm.of (As := fun ad => [.ref (ad 26)]) hg pn_X6 (Nat.le_of_ble_eq_true rfl) ?_
  exact (fun Γ _ _ X Y => w_Suite_countWords_b0 X Y  h)
theorem cv_Suite_countWords {Γ : Ctx} {cc : ByteArray} {nL d pc index : Nat} {own : String} {L : List (Nat × Value)} {rest : List Value} {I : MI} {J : MJ} {Q : Int32 → MI → MJ → Prop}  (X : Cx Γ cc nL own d) (hd : decode cc pc = .ok (.invokevirtual index, 3)) (hlink : Cond.methodLink own index yX6_countWords ∈ TT)  (h : f_Suite_countWords  I J Q) (hrest : (rest.map fun v => v.category).sum ≤ 8) (hdd : 2 + 1 ≤ d) (kk : ∀ (r : Int32) (I' : MI) (J' : MJ), Q r I' J' → Wp Γ nL (pc + 3) L (.int r :: rest) I' J') : Wp Γ nL pc L (.ref (ad Γ 26) :: rest) I J :=
  wp_callV (As := []) (rest := rest) (T := TX6) (N := 9) X hd hlink mv_X6_countWords sh_26 (by decide) rfl (c_Suite_countWords X.inj  h) rfl rfl hrest hdd (fun v I' J' hv => by obtain ⟨r, rfl, hq⟩ := hv; exact kk r I' J' hq)
theorem dX10_suite_0 : decode cX10_suite 0 = .ok (.aload_n 0, 1) := by decide +kernel
theorem dX10_suite_1 : decode cX10_suite 1 = .ok (.iload_n 1, 1) := by decide +kernel
theorem dX10_suite_2 : decode cX10_suite 2 = .ok (.iload_n 2, 1) := by decide +kernel
theorem dX10_suite_3 : decode cX10_suite 3 = .ok (.invokevirtual 217, 3) := by decide +kernel
theorem dX10_suite_6 : decode cX10_suite 6 = .ok (.ifCond .eq 13, 3) := by decide +kernel
theorem dX10_suite_9 : decode cX10_suite 9 = .ok (.aload_n 0, 1) := by decide +kernel
theorem dX10_suite_10 : decode cX10_suite 10 = .ok (.getfield 39, 3) := by decide +kernel
theorem dX10_suite_13 : decode cX10_suite 13 = .ok (.invokevirtual 220, 3) := by decide +kernel
theorem dX10_suite_16 : decode cX10_suite 16 = .ok (.goto 4, 3) := by decide +kernel
theorem dX10_suite_19 : decode cX10_suite 19 = .ok (.iconst (-1), 1) := by decide +kernel
theorem dX10_suite_20 : decode cX10_suite 20 = .ok (.ireturn, 1) := by decide +kernel
def f_School_suite (x1 : Int32) (x2 : Int32) (I : MI) (J : MJ) (Q : Int32 → MI → MJ → Prop) : Prop :=
  f_School_gatherSuite x1 x2 I J (fun r3 I3 J3 => (if r3 = 0 then Q (-1) I3 J3 else f_Suite_countWords I3 J3 (fun r13 I13 J13 => Q r13 I13 J13)))
set_option maxRecDepth 100000 in
set_option maxHeartbeats 4000000 in
theorem w_School_suite_b0 {Γ : Ctx} {Q : Int32 → MI → MJ → Prop} {x1 : Int32} {x2 : Int32}  (X : Cx Γ cX10_suite 3 RX10 7) (Y : Rt Γ (Pi Q) (Option.some Jvm.ClassFile.FieldType.int))   {I : MI} {J : MJ} (h : f_School_suite x1 x2 I J Q) : Wp Γ 3 0 [(0, .ref (ad Γ 0)), (1, .int x1), (2, .int x2)] [] I J := by
  unfold f_School_suite at h
  refine wp_aload_n X dX10_suite_0 0 rfl ?_
  refine wp_iload_n X dX10_suite_1 1 rfl ?_
  refine wp_iload_n X dX10_suite_2 2 rfl ?_
  refine cv_School_gatherSuite X dX10_suite_3 ml_X10_217  h (Nat.le_of_ble_eq_true rfl) (by decide) (fun r3 I3 J3 h => ?_)
  refine wp_if_eq (tgt := 19) X dX10_suite_6 (by decide) (fun hc => ?_) (fun hc => ?_)
  · have h := ite_t h hc
    refine wp_iconst X dX10_suite_19 ic_m1 ?_
    exact wp_iret X Y dX10_suite_20 ⟨_, rfl, h⟩
  · have h := ite_f h hc
    refine wp_aload_n X dX10_suite_9 0 rfl ?_
    refine gf_X10_39 (o' := 26) X sh_0 rfl dX10_suite_10 ?_
    refine cv_Suite_countWords X dX10_suite_13 ml_X10_220  h (Nat.le_of_ble_eq_true rfl) (by decide) (fun r13 I13 J13 h => ?_)
    refine wp_goto (tgt := 20) X dX10_suite_16 (by decide) ?_
    exact wp_iret X Y dX10_suite_20 ⟨_, rfl, h⟩

theorem c_School_suite {l : Launch} {g : GE} (hg : Inj g) {I : MI} {J : MJ} {Q : Int32 → MI → MJ → Prop} {x1 : Int32} {x2 : Int32}  (h : f_School_suite x1 x2 I J Q) : Cm l g yX10_suite cX10_suite 3 (Option.some Jvm.ClassFile.FieldType.int) 7 [.ref (g.1 0), .int x1, .int x2] I J (Pi Q) := by
  refine Cm.of (As := fun ad => [.ref (ad 0), .int x1, .int x2]) hg pn_X10 (Nat.le_of_ble_eq_true rfl) ?_
  exact (fun Γ _ _ X Y => w_School_suite_b0 X Y  h)
theorem cv_School_suite {Γ : Ctx} {cc : ByteArray} {nL d pc index : Nat} {own : String} {L : List (Nat × Value)} {rest : List Value} {I : MI} {J : MJ} {Q : Int32 → MI → MJ → Prop} {x1 : Int32} {x2 : Int32} (X : Cx Γ cc nL own d) (hd : decode cc pc = .ok (.invokevirtual index, 3)) (hlink : Cond.methodLink own index yX10_suite ∈ TT)  (h : f_School_suite x1 x2 I J Q) (hrest : (rest.map fun v => v.category).sum ≤ 8) (hdd : 7 + 1 ≤ d) (kk : ∀ (r : Int32) (I' : MI) (J' : MJ), Q r I' J' → Wp Γ nL (pc + 3) L (.int r :: rest) I' J') : Wp Γ nL pc L (.int x2 :: .int x1 :: .ref (ad Γ 0) :: rest) I J :=
  wp_callV (As := [.int x1, .int x2]) (rest := rest) (T := TX10) (N := 9) X hd hlink mv_X10_suite sh_0 (by decide) rfl (c_School_suite X.inj  h) rfl rfl hrest hdd (fun v I' J' hv => by obtain ⟨r, rfl, hq⟩ := hv; exact kk r I' J' hq)
theorem dX6_areUnlike_0 : decode cX6_areUnlike 0 = .ok (.aload_n 0, 1) := by decide +kernel
theorem dX6_areUnlike_1 : decode cX6_areUnlike 1 = .ok (.getfield 12, 3) := by decide +kernel
theorem dX6_areUnlike_4 : decode cX6_areUnlike 4 = .ok (.aload_n 0, 1) := by decide +kernel
theorem dX6_areUnlike_5 : decode cX6_areUnlike 5 = .ok (.getfield 12, 3) := by decide +kernel
theorem dX6_areUnlike_8 : decode cX6_areUnlike 8 = .ok (.iload_n 1, 1) := by decide +kernel
theorem dX6_areUnlike_9 : decode cX6_areUnlike 9 = .ok (.lload 4, 2) := by decide +kernel
theorem dX6_areUnlike_11 : decode cX6_areUnlike 11 = .ok (.invokevirtual 103, 3) := by decide +kernel
theorem dX6_areUnlike_14 : decode cX6_areUnlike 14 = .ok (.invokevirtual 111, 3) := by decide +kernel
theorem dX6_areUnlike_17 : decode cX6_areUnlike 17 = .ok (.istore 6, 2) := by decide +kernel
theorem dX6_areUnlike_19 : decode cX6_areUnlike 19 = .ok (.iload 6, 2) := by decide +kernel
theorem dX6_areUnlike_21 : decode cX6_areUnlike 21 = .ok (.aload_n 2, 1) := by decide +kernel
theorem dX6_areUnlike_22 : decode cX6_areUnlike 22 = .ok (.aload_n 2, 1) := by decide +kernel
theorem dX6_areUnlike_23 : decode cX6_areUnlike 23 = .ok (.iload_n 3, 1) := by decide +kernel
theorem dX6_areUnlike_24 : decode cX6_areUnlike 24 = .ok (.lload 4, 2) := by decide +kernel
theorem dX6_areUnlike_26 : decode cX6_areUnlike 26 = .ok (.invokevirtual 103, 3) := by decide +kernel
theorem dX6_areUnlike_29 : decode cX6_areUnlike 29 = .ok (.invokevirtual 111, 3) := by decide +kernel
theorem dX6_areUnlike_32 : decode cX6_areUnlike 32 = .ok (.if_icmp .eq 7, 3) := by decide +kernel
theorem dX6_areUnlike_35 : decode cX6_areUnlike 35 = .ok (.iconst 1, 1) := by decide +kernel
theorem dX6_areUnlike_36 : decode cX6_areUnlike 36 = .ok (.goto 4, 3) := by decide +kernel
theorem dX6_areUnlike_39 : decode cX6_areUnlike 39 = .ok (.iconst 0, 1) := by decide +kernel
theorem dX6_areUnlike_40 : decode cX6_areUnlike 40 = .ok (.ireturn, 1) := by decide +kernel
def f_Suite_areUnlike (x1 : Int32) (x2 : Nat) (x3 : Int32) (x4 : Int64) (I : MI) (J : MJ) (Q : Int32 → MI → MJ → Prop) : Prop :=
  f_Machine_runFrom 27 x1 x4 I J (fun r11 I11 J11 => f_Machine_answerAt 27 r11 I11 J11 (fun r14 I14 J14 => f_Machine_runFrom x2 x3 x4 I14 J14 (fun r26 I26 J26 => f_Machine_answerAt x2 r26 I26 J26 (fun r29 I29 J29 => (if r14 = r29 then Q 0 I29 J29 else Q 1 I29 J29)))))
set_option maxRecDepth 100000 in
set_option maxHeartbeats 4000000 in
theorem w_Suite_areUnlike_b0 {Γ : Ctx} {Q : Int32 → MI → MJ → Prop} {x1 : Int32} {x2 : Nat} {x3 : Int32} {x4 : Int64}  (X : Cx Γ cX6_areUnlike 7 RX6 3) (Y : Rt Γ (Pi Q) (Option.some Jvm.ClassFile.FieldType.boolean)) (hx2 : okM x2)  {I : MI} {J : MJ} (h : f_Suite_areUnlike x1 x2 x3 x4 I J Q) : Wp Γ 7 0 [(0, .ref (ad Γ 26)), (1, .int x1), (2, .ref (ad Γ x2)), (3, .int x3), (4, .long x4)] [] I J := by
  unfold f_Suite_areUnlike at h
  refine wp_aload_n X dX6_areUnlike_0 0 rfl ?_
  refine gf_X6_12 (o' := 27) X sh_26 rfl dX6_areUnlike_1 ?_
  refine wp_aload_n X dX6_areUnlike_4 0 rfl ?_
  refine gf_X6_12 (o' := 27) X sh_26 rfl dX6_areUnlike_5 ?_
  refine wp_iload_n X dX6_areUnlike_8 1 rfl ?_
  refine wp_lload X dX6_areUnlike_9 4 rfl ?_
  refine cv_Machine_runFrom X dX6_areUnlike_11 ml_X6_103 okM_27 h (Nat.le_of_ble_eq_true rfl) (by decide) (fun r11 I11 J11 h => ?_)
  refine cv_Machine_answerAt X dX6_areUnlike_14 ml_X6_111 okM_27 h (Nat.le_of_ble_eq_true rfl) (by decide) (fun r14 I14 J14 h => ?_)
  refine wp_istore (L' := [(6, .int r14), (0, .ref (ad Γ 26)), (1, .int x1), (2, .ref (ad Γ x2)), (3, .int x3), (4, .long x4)]) X dX6_areUnlike_17 (by decide) rfl ?_
  refine wp_iload X dX6_areUnlike_19 0 rfl ?_
  refine wp_aload_n X dX6_areUnlike_21 3 rfl ?_
  refine wp_aload_n X dX6_areUnlike_22 3 rfl ?_
  refine wp_iload_n X dX6_areUnlike_23 4 rfl ?_
  refine wp_lload X dX6_areUnlike_24 5 rfl ?_
  refine cv_Machine_runFrom X dX6_areUnlike_26 ml_X6_103 hx2 h (Nat.le_of_ble_eq_true rfl) (by decide) (fun r26 I26 J26 h => ?_)
  refine cv_Machine_answerAt X dX6_areUnlike_29 ml_X6_111 hx2 h (Nat.le_of_ble_eq_true rfl) (by decide) (fun r29 I29 J29 h => ?_)
  refine wp_icmp_eq (tgt := 39) X dX6_areUnlike_32 (by decide) (fun hc => ?_) (fun hc => ?_)
  · have h := ite_t h hc
    refine wp_iconst X dX6_areUnlike_39 ic_0 ?_
    exact wp_zret X Y dX6_areUnlike_40 (by decide) ⟨_, rfl, h⟩
  · have h := ite_f h hc
    refine wp_iconst X dX6_areUnlike_35 ic_1 ?_
    refine wp_goto (tgt := 40) X dX6_areUnlike_36 (by decide) ?_
    exact wp_zret X Y dX6_areUnlike_40 (by decide) ⟨_, rfl, h⟩

theorem c_Suite_areUnlike {l : Launch} {g : GE} (hg : Inj g) {I : MI} {J : MJ} {Q : Int32 → MI → MJ → Prop} {x1 : Int32} {x2 : Nat} {x3 : Int32} {x4 : Int64} (hx2 : okM x2) (h : f_Suite_areUnlike x1 x2 x3 x4 I J Q) : Cm l g yX6_areUnlike cX6_areUnlike 7 (Option.some Jvm.ClassFile.FieldType.boolean) 3 [.ref (g.1 26), .int x1, .ref (g.1 x2), .int x3, .long x4] I J (Pi Q) := by
  refine Cm.of (As := fun ad => [.ref (ad 26), .int x1, .ref (ad x2), .int x3, .long x4]) hg pn_X6 (Nat.le_of_ble_eq_true rfl) ?_
  exact (fun Γ _ _ X Y => w_Suite_areUnlike_b0 X Y hx2 h)
theorem cv_Suite_areUnlike {Γ : Ctx} {cc : ByteArray} {nL d pc index : Nat} {own : String} {L : List (Nat × Value)} {rest : List Value} {I : MI} {J : MJ} {Q : Int32 → MI → MJ → Prop} {x1 : Int32} {x2 : Nat} {x3 : Int32} {x4 : Int64} (X : Cx Γ cc nL own d) (hd : decode cc pc = .ok (.invokevirtual index, 3)) (hlink : Cond.methodLink own index yX6_areUnlike ∈ TT) (hx2 : okM x2) (h : f_Suite_areUnlike x1 x2 x3 x4 I J Q) (hrest : (rest.map fun v => v.category).sum ≤ 8) (hdd : 3 + 1 ≤ d) (kk : ∀ (r : Int32) (I' : MI) (J' : MJ), Q r I' J' → Wp Γ nL (pc + 3) L (.int r :: rest) I' J') : Wp Γ nL pc L (.long x4 :: .int x3 :: .ref (ad Γ x2) :: .int x1 :: .ref (ad Γ 26) :: rest) I J :=
  wp_callV (As := [.int x1, .ref (ad Γ x2), .int x3, .long x4]) (rest := rest) (T := TX6) (N := 9) X hd hlink mv_X6_areUnlike sh_26 (by decide) rfl (c_Suite_areUnlike X.inj hx2 h) rfl rfl hrest hdd (fun v I' J' hv => by obtain ⟨r, rfl, hq⟩ := hv; exact kk r I' J' hq)
theorem dX6_firstFailure_0 : decode cX6_firstFailure 0 = .ok (.lconst 0, 1) := by decide +kernel
theorem dX6_firstFailure_1 : decode cX6_firstFailure 1 = .ok (.lstore_n 2, 1) := by decide +kernel
theorem dX6_firstFailure_2 : decode cX6_firstFailure 2 = .ok (.iconst 0, 1) := by decide +kernel
theorem dX6_firstFailure_3 : decode cX6_firstFailure 3 = .ok (.istore 4, 2) := by decide +kernel
theorem dX6_firstFailure_5 : decode cX6_firstFailure 5 = .ok (.iload 4, 2) := by decide +kernel
theorem dX6_firstFailure_7 : decode cX6_firstFailure 7 = .ok (.aload_n 0, 1) := by decide +kernel
theorem dX6_firstFailure_8 : decode cX6_firstFailure 8 = .ok (.getfield 60, 3) := by decide +kernel
theorem dX6_firstFailure_11 : decode cX6_firstFailure 11 = .ok (.if_icmp .ge 136, 3) := by decide +kernel
theorem dX6_firstFailure_14 : decode cX6_firstFailure 14 = .ok (.aload_n 0, 1) := by decide +kernel
theorem dX6_firstFailure_15 : decode cX6_firstFailure 15 = .ok (.getfield 12, 3) := by decide +kernel
theorem dX6_firstFailure_18 : decode cX6_firstFailure 18 = .ok (.iconst 0, 1) := by decide +kernel
theorem dX6_firstFailure_19 : decode cX6_firstFailure 19 = .ok (.aload_n 0, 1) := by decide +kernel
theorem dX6_firstFailure_20 : decode cX6_firstFailure 20 = .ok (.getfield 22, 3) := by decide +kernel
theorem dX6_firstFailure_23 : decode cX6_firstFailure 23 = .ok (.iload 4, 2) := by decide +kernel
theorem dX6_firstFailure_25 : decode cX6_firstFailure 25 = .ok (.laload, 1) := by decide +kernel
theorem dX6_firstFailure_26 : decode cX6_firstFailure 26 = .ok (.invokevirtual 103, 3) := by decide +kernel
theorem dX6_firstFailure_29 : decode cX6_firstFailure 29 = .ok (.istore 5, 2) := by decide +kernel
theorem dX6_firstFailure_31 : decode cX6_firstFailure 31 = .ok (.aload_n 1, 1) := by decide +kernel
theorem dX6_firstFailure_32 : decode cX6_firstFailure 32 = .ok (.iconst 0, 1) := by decide +kernel
theorem dX6_firstFailure_33 : decode cX6_firstFailure 33 = .ok (.aload_n 0, 1) := by decide +kernel
theorem dX6_firstFailure_34 : decode cX6_firstFailure 34 = .ok (.getfield 22, 3) := by decide +kernel
theorem dX6_firstFailure_37 : decode cX6_firstFailure 37 = .ok (.iload 4, 2) := by decide +kernel
theorem dX6_firstFailure_39 : decode cX6_firstFailure 39 = .ok (.laload, 1) := by decide +kernel
theorem dX6_firstFailure_40 : decode cX6_firstFailure 40 = .ok (.invokevirtual 103, 3) := by decide +kernel
theorem dX6_firstFailure_43 : decode cX6_firstFailure 43 = .ok (.istore 6, 2) := by decide +kernel
theorem dX6_firstFailure_45 : decode cX6_firstFailure 45 = .ok (.iconst 0, 1) := by decide +kernel
theorem dX6_firstFailure_46 : decode cX6_firstFailure 46 = .ok (.istore 7, 2) := by decide +kernel
theorem dX6_firstFailure_48 : decode cX6_firstFailure 48 = .ok (.iload 7, 2) := by decide +kernel
theorem dX6_firstFailure_50 : decode cX6_firstFailure 50 = .ok (.aload_n 0, 1) := by decide +kernel
theorem dX6_firstFailure_51 : decode cX6_firstFailure 51 = .ok (.getfield 81, 3) := by decide +kernel
theorem dX6_firstFailure_54 : decode cX6_firstFailure 54 = .ok (.if_icmp .ge 87, 3) := by decide +kernel
theorem dX6_firstFailure_57 : decode cX6_firstFailure 57 = .ok (.iload 5, 2) := by decide +kernel
theorem dX6_firstFailure_59 : decode cX6_firstFailure 59 = .ok (.iconst (-1), 1) := by decide +kernel
theorem dX6_firstFailure_60 : decode cX6_firstFailure 60 = .ok (.if_icmp .ne 9, 3) := by decide +kernel
theorem dX6_firstFailure_63 : decode cX6_firstFailure 63 = .ok (.iload 6, 2) := by decide +kernel
theorem dX6_firstFailure_65 : decode cX6_firstFailure 65 = .ok (.iconst (-1), 1) := by decide +kernel
theorem dX6_firstFailure_66 : decode cX6_firstFailure 66 = .ok (.if_icmp .eq 75, 3) := by decide +kernel
theorem dX6_firstFailure_69 : decode cX6_firstFailure 69 = .ok (.aload_n 0, 1) := by decide +kernel
theorem dX6_firstFailure_70 : decode cX6_firstFailure 70 = .ok (.getfield 22, 3) := by decide +kernel
theorem dX6_firstFailure_73 : decode cX6_firstFailure 73 = .ok (.iload 4, 2) := by decide +kernel
theorem dX6_firstFailure_75 : decode cX6_firstFailure 75 = .ok (.laload, 1) := by decide +kernel
theorem dX6_firstFailure_76 : decode cX6_firstFailure 76 = .ok (.aload_n 0, 1) := by decide +kernel
theorem dX6_firstFailure_77 : decode cX6_firstFailure 77 = .ok (.getfield 28, 3) := by decide +kernel
theorem dX6_firstFailure_80 : decode cX6_firstFailure 80 = .ok (.iload 7, 2) := by decide +kernel
theorem dX6_firstFailure_82 : decode cX6_firstFailure 82 = .ok (.laload, 1) := by decide +kernel
theorem dX6_firstFailure_83 : decode cX6_firstFailure 83 = .ok (.invokestatic 77, 3) := by decide +kernel
theorem dX6_firstFailure_86 : decode cX6_firstFailure 86 = .ok (.lstore 8, 2) := by decide +kernel
theorem dX6_firstFailure_88 : decode cX6_firstFailure 88 = .ok (.lload_n 2, 1) := by decide +kernel
theorem dX6_firstFailure_89 : decode cX6_firstFailure 89 = .ok (.lconst 0, 1) := by decide +kernel
theorem dX6_firstFailure_90 : decode cX6_firstFailure 90 = .ok (.lcmp, 1) := by decide +kernel
theorem dX6_firstFailure_91 : decode cX6_firstFailure 91 = .ok (.ifCond .eq 10, 3) := by decide +kernel
theorem dX6_firstFailure_94 : decode cX6_firstFailure 94 = .ok (.lload 8, 2) := by decide +kernel
theorem dX6_firstFailure_96 : decode cX6_firstFailure 96 = .ok (.lload_n 2, 1) := by decide +kernel
theorem dX6_firstFailure_97 : decode cX6_firstFailure 97 = .ok (.lcmp, 1) := by decide +kernel
theorem dX6_firstFailure_98 : decode cX6_firstFailure 98 = .ok (.ifCond .ge 7, 3) := by decide +kernel
theorem dX6_firstFailure_101 : decode cX6_firstFailure 101 = .ok (.iconst 1, 1) := by decide +kernel
theorem dX6_firstFailure_102 : decode cX6_firstFailure 102 = .ok (.goto 4, 3) := by decide +kernel
theorem dX6_firstFailure_105 : decode cX6_firstFailure 105 = .ok (.iconst 0, 1) := by decide +kernel
theorem dX6_firstFailure_106 : decode cX6_firstFailure 106 = .ok (.istore 10, 2) := by decide +kernel
theorem dX6_firstFailure_108 : decode cX6_firstFailure 108 = .ok (.iload 10, 2) := by decide +kernel
theorem dX6_firstFailure_110 : decode cX6_firstFailure 110 = .ok (.ifCond .eq 25, 3) := by decide +kernel
theorem dX6_firstFailure_113 : decode cX6_firstFailure 113 = .ok (.aload_n 0, 1) := by decide +kernel
theorem dX6_firstFailure_114 : decode cX6_firstFailure 114 = .ok (.iload 5, 2) := by decide +kernel
theorem dX6_firstFailure_116 : decode cX6_firstFailure 116 = .ok (.aload_n 1, 1) := by decide +kernel
theorem dX6_firstFailure_117 : decode cX6_firstFailure 117 = .ok (.iload 6, 2) := by decide +kernel
theorem dX6_firstFailure_119 : decode cX6_firstFailure 119 = .ok (.aload_n 0, 1) := by decide +kernel
theorem dX6_firstFailure_120 : decode cX6_firstFailure 120 = .ok (.getfield 28, 3) := by decide +kernel
theorem dX6_firstFailure_123 : decode cX6_firstFailure 123 = .ok (.iload 7, 2) := by decide +kernel
theorem dX6_firstFailure_125 : decode cX6_firstFailure 125 = .ok (.laload, 1) := by decide +kernel
theorem dX6_firstFailure_126 : decode cX6_firstFailure 126 = .ok (.invokevirtual 107, 3) := by decide +kernel
theorem dX6_firstFailure_129 : decode cX6_firstFailure 129 = .ok (.ifCond .eq 6, 3) := by decide +kernel
theorem dX6_firstFailure_132 : decode cX6_firstFailure 132 = .ok (.lload 8, 2) := by decide +kernel
theorem dX6_firstFailure_134 : decode cX6_firstFailure 134 = .ok (.lstore_n 2, 1) := by decide +kernel
theorem dX6_firstFailure_135 : decode cX6_firstFailure 135 = .ok (.iinc 7 1, 3) := by decide +kernel
theorem dX6_firstFailure_138 : decode cX6_firstFailure 138 = .ok (.goto (-90), 3) := by decide +kernel
theorem dX6_firstFailure_141 : decode cX6_firstFailure 141 = .ok (.iinc 4 1, 3) := by decide +kernel
theorem dX6_firstFailure_144 : decode cX6_firstFailure 144 = .ok (.goto (-139), 3) := by decide +kernel
theorem dX6_firstFailure_147 : decode cX6_firstFailure 147 = .ok (.lload_n 2, 1) := by decide +kernel
theorem dX6_firstFailure_148 : decode cX6_firstFailure 148 = .ok (.lreturn, 1) := by decide +kernel
def f_Suite_firstFailure_b141 (x2 : Int64) (x4 : Int32) (kh : Int64 → Int32 → MI → MJ → Prop) (I : MI) (J : MJ) : Prop :=
  ∀ t141 : Int32, t141 = x4 + 1 → kh x2 t141 I J
def f_Suite_firstFailure_b135 (x2 : Int64) (x7 : Int32) (kh : Int64 → Int32 → MI → MJ → Prop) (I : MI) (J : MJ) : Prop :=
  ∀ t135 : Int32, t135 = x7 + 1 → kh x2 t135 I J
def f_Suite_firstFailure_b106 (x1 : Nat) (x2 : Int64) (x5 : Int32) (x6 : Int32) (x7 : Int32) (x8 : Int64) (s0 : Int32) (kh : Int64 → Int32 → MI → MJ → Prop) (I : MI) (J : MJ) : Prop :=
  (if s0 = 0 then f_Suite_firstFailure_b135 x2 x7 kh I J else vp_in x7 6 ∧ f_Suite_areUnlike x5 x1 x6 (J 35 x7.toNatClampNeg) I J (fun r126 I126 J126 => (if r126 = 0 then f_Suite_firstFailure_b135 x2 x7 kh I126 J126 else f_Suite_firstFailure_b135 x8 x7 kh I126 J126)))
def f_Suite_firstFailure_b101 (x1 : Nat) (x2 : Int64) (x5 : Int32) (x6 : Int32) (x7 : Int32) (x8 : Int64) (kh : Int64 → Int32 → MI → MJ → Prop) (I : MI) (J : MJ) : Prop :=
  f_Suite_firstFailure_b106 x1 x2 x5 x6 x7 x8 1 kh I J
def f_Suite_firstFailure_b69 (x1 : Nat) (x2 : Int64) (x4 : Int32) (x5 : Int32) (x6 : Int32) (x7 : Int32) (kh : Int64 → Int32 → MI → MJ → Prop) (I : MI) (J : MJ) : Prop :=
  vp_in x4 175 ∧ vp_in x7 6 ∧ f_Words_joined (J 33 x4.toNatClampNeg) (J 35 x7.toNatClampNeg) I J (fun r83 I83 J83 => (if x2 = 0 then f_Suite_firstFailure_b101 x1 x2 x5 x6 x7 r83 kh I83 J83 else (if x2 ≤ r83 then f_Suite_firstFailure_b106 x1 x2 x5 x6 x7 r83 0 kh I83 J83 else f_Suite_firstFailure_b101 x1 x2 x5 x6 x7 r83 kh I83 J83)))
def f_Suite_firstFailure_L48 (x1 : Nat) (x4 : Int32) (x5 : Int32) (x6 : Int32) (k141 : Int64 → MI → MJ → Prop) : Nat → Int64 → Int32 → MI → MJ → Prop
  | 0, _, _, _, _ => False
  | nf48 + 1, x2, x7, I, J =>
  (if (I 26 3) ≤ x7 then k141 x2 I J else (if x5 = (-1) then (if x6 = (-1) then k141 x2 I J else f_Suite_firstFailure_b69 x1 x2 x4 x5 x6 x7 (f_Suite_firstFailure_L48 x1 x4 x5 x6 k141 nf48) I J) else f_Suite_firstFailure_b69 x1 x2 x4 x5 x6 x7 (f_Suite_firstFailure_L48 x1 x4 x5 x6 k141 nf48) I J))
def f_Suite_firstFailure_L5 (x1 : Nat) (k147 : Int64 → MI → MJ → Prop) : Nat → Int64 → Int32 → MI → MJ → Prop
  | 0, _, _, _, _ => False
  | nf5 + 1, x2, x4, I, J =>
  (if (I 26 1) ≤ x4 then k147 x2 I J else vp_in x4 175 ∧ f_Machine_runFrom 27 (0 : Int32) (J 33 x4.toNatClampNeg) I J (fun r26 I26 J26 => vp_in x4 175 ∧ f_Machine_runFrom x1 (0 : Int32) (J26 33 x4.toNatClampNeg) I26 J26 (fun r40 I40 J40 => ∃ n, f_Suite_firstFailure_L48 x1 x4 r26 r40 (fun (z141_x2 : Int64) (I : MI) (J : MJ) => f_Suite_firstFailure_b141 z141_x2 x4 (f_Suite_firstFailure_L5 x1 k147 nf5) I J) n x2 0 I40 J40)))
def f_Suite_firstFailure (x1 : Nat) (I : MI) (J : MJ) (Q : Int64 → MI → MJ → Prop) : Prop :=
  ∃ n, f_Suite_firstFailure_L5 x1 (fun (z147_x2 : Int64) (I : MI) (J : MJ) => Q z147_x2 I J) n 0 0 I J
set_option maxRecDepth 100000 in
set_option maxHeartbeats 4000000 in
theorem w_Suite_firstFailure_b141 {Γ : Ctx} {Q : Int64 → MI → MJ → Prop} {x1 : Nat} {x2 : Int64} {x4 : Int32} {kh : Int64 → Int32 → MI → MJ → Prop} (X : Cx Γ cX6_firstFailure 11 RX6 4) (Y : Rt Γ (Pl Q) (Option.some Jvm.ClassFile.FieldType.long)) (hx1 : okM x1) (hkh : ∀ (x2 : Int64) (x4 : Int32) (I : MI) (J : MJ), kh x2 x4 I J → Wp Γ 11 5 [(0, .ref (ad Γ 26)), (1, .ref (ad Γ x1)), (2, .long x2), (4, .int x4)] [] I J) {I : MI} {J : MJ} (h : f_Suite_firstFailure_b141 x2 x4 kh I J) : Wp Γ 11 141 [(0, .ref (ad Γ 26)), (1, .ref (ad Γ x1)), (2, .long x2), (4, .int x4)] [] I J := by
  unfold f_Suite_firstFailure_b141 at h
  obtain ⟨t141, et141⟩ : ∃ y : Int32, y = x4 + 1 := ⟨_, rfl⟩
  have h := h t141 et141
  refine wp_iinc (L' := [(4, .int t141), (0, .ref (ad Γ 26)), (1, .ref (ad Γ x1)), (2, .long x2)]) X dX6_firstFailure_141 3 rfl (ii_1 et141) (by decide) rfl ?_
  refine wp_goto (tgt := 5) X dX6_firstFailure_144 (by decide) ?_
  refine wp_sub X [1, 2, 3, 0] rfl ?_
  exact hkh _ _ _ _ h

set_option maxRecDepth 100000 in
set_option maxHeartbeats 4000000 in
theorem w_Suite_firstFailure_b135 {Γ : Ctx} {Q : Int64 → MI → MJ → Prop} {x1 : Nat} {x2 : Int64} {x4 : Int32} {x5 : Int32} {x6 : Int32} {x7 : Int32} {kh : Int64 → Int32 → MI → MJ → Prop} (X : Cx Γ cX6_firstFailure 11 RX6 4) (Y : Rt Γ (Pl Q) (Option.some Jvm.ClassFile.FieldType.long)) (hx1 : okM x1) (hkh : ∀ (x2 : Int64) (x7 : Int32) (I : MI) (J : MJ), kh x2 x7 I J → Wp Γ 11 48 [(0, .ref (ad Γ 26)), (1, .ref (ad Γ x1)), (2, .long x2), (4, .int x4), (5, .int x5), (6, .int x6), (7, .int x7)] [] I J) {I : MI} {J : MJ} (h : f_Suite_firstFailure_b135 x2 x7 kh I J) : Wp Γ 11 135 [(0, .ref (ad Γ 26)), (1, .ref (ad Γ x1)), (2, .long x2), (4, .int x4), (5, .int x5), (6, .int x6), (7, .int x7)] [] I J := by
  unfold f_Suite_firstFailure_b135 at h
  obtain ⟨t135, et135⟩ : ∃ y : Int32, y = x7 + 1 := ⟨_, rfl⟩
  have h := h t135 et135
  refine wp_iinc (L' := [(7, .int t135), (0, .ref (ad Γ 26)), (1, .ref (ad Γ x1)), (2, .long x2), (4, .int x4), (5, .int x5), (6, .int x6)]) X dX6_firstFailure_135 6 rfl (ii_1 et135) (by decide) rfl ?_
  refine wp_goto (tgt := 48) X dX6_firstFailure_138 (by decide) ?_
  refine wp_sub X [1, 2, 3, 4, 5, 6, 0] rfl ?_
  exact hkh _ _ _ _ h

set_option maxRecDepth 100000 in
set_option maxHeartbeats 4000000 in
theorem w_Suite_firstFailure_b106 {Γ : Ctx} {Q : Int64 → MI → MJ → Prop} {x1 : Nat} {x2 : Int64} {x4 : Int32} {x5 : Int32} {x6 : Int32} {x7 : Int32} {x8 : Int64} {s0 : Int32} {kh : Int64 → Int32 → MI → MJ → Prop} (X : Cx Γ cX6_firstFailure 11 RX6 4) (Y : Rt Γ (Pl Q) (Option.some Jvm.ClassFile.FieldType.long)) (hx1 : okM x1) (hkh : ∀ (x2 : Int64) (x7 : Int32) (I : MI) (J : MJ), kh x2 x7 I J → Wp Γ 11 48 [(0, .ref (ad Γ 26)), (1, .ref (ad Γ x1)), (2, .long x2), (4, .int x4), (5, .int x5), (6, .int x6), (7, .int x7)] [] I J) {I : MI} {J : MJ} (h : f_Suite_firstFailure_b106 x1 x2 x5 x6 x7 x8 s0 kh I J) : Wp Γ 11 106 [(0, .ref (ad Γ 26)), (1, .ref (ad Γ x1)), (2, .long x2), (4, .int x4), (5, .int x5), (6, .int x6), (7, .int x7), (8, .long x8)] [.int s0] I J := by
  unfold f_Suite_firstFailure_b106 at h
  refine wp_istore (L' := [(10, .int s0), (0, .ref (ad Γ 26)), (1, .ref (ad Γ x1)), (2, .long x2), (4, .int x4), (5, .int x5), (6, .int x6), (7, .int x7), (8, .long x8)]) X dX6_firstFailure_106 (by decide) rfl ?_
  refine wp_iload X dX6_firstFailure_108 0 rfl ?_
  refine wp_if_eq (tgt := 135) X dX6_firstFailure_110 (by decide) (fun hc => ?_) (fun hc => ?_)
  · have h := ite_t h hc
    refine wp_sub X [1, 2, 3, 4, 5, 6, 7] rfl ?_
    exact w_Suite_firstFailure_b135 X Y hx1 hkh h
  · have h := ite_f h hc
    refine wp_aload_n X dX6_firstFailure_113 1 rfl ?_
    refine wp_iload X dX6_firstFailure_114 5 rfl ?_
    refine wp_aload_n X dX6_firstFailure_116 2 rfl ?_
    refine wp_iload X dX6_firstFailure_117 6 rfl ?_
    refine wp_aload_n X dX6_firstFailure_119 1 rfl ?_
    refine gf_X6_28 (o' := 35) X sh_26 rfl dX6_firstFailure_120 ?_
    refine wp_iload X dX6_firstFailure_123 7 rfl ?_
    obtain ⟨hb125, h⟩ := h
    refine wp_lald X sh_35 hb125 dX6_firstFailure_125 ?_
    refine cv_Suite_areUnlike X dX6_firstFailure_126 ml_X6_107 hx1 h (Nat.le_of_ble_eq_true rfl) (by decide) (fun r126 I126 J126 h => ?_)
    refine wp_if_eq (tgt := 135) X dX6_firstFailure_129 (by decide) (fun hc => ?_) (fun hc => ?_)
    · have h := ite_t h hc
      refine wp_sub X [1, 2, 3, 4, 5, 6, 7] rfl ?_
      exact w_Suite_firstFailure_b135 X Y hx1 hkh h
    · have h := ite_f h hc
      refine wp_lload X dX6_firstFailure_132 8 rfl ?_
      refine wp_lstore_n (L' := [(2, .long x8), (10, .int s0), (0, .ref (ad Γ 26)), (1, .ref (ad Γ x1)), (4, .int x4), (5, .int x5), (6, .int x6), (7, .int x7), (8, .long x8)]) X dX6_firstFailure_134 rfl (by decide) rfl ?_
      refine wp_sub X [2, 3, 0, 4, 5, 6, 7] rfl ?_
      exact w_Suite_firstFailure_b135 X Y hx1 hkh h

set_option maxRecDepth 100000 in
set_option maxHeartbeats 4000000 in
theorem w_Suite_firstFailure_b101 {Γ : Ctx} {Q : Int64 → MI → MJ → Prop} {x1 : Nat} {x2 : Int64} {x4 : Int32} {x5 : Int32} {x6 : Int32} {x7 : Int32} {x8 : Int64} {kh : Int64 → Int32 → MI → MJ → Prop} (X : Cx Γ cX6_firstFailure 11 RX6 4) (Y : Rt Γ (Pl Q) (Option.some Jvm.ClassFile.FieldType.long)) (hx1 : okM x1) (hkh : ∀ (x2 : Int64) (x7 : Int32) (I : MI) (J : MJ), kh x2 x7 I J → Wp Γ 11 48 [(0, .ref (ad Γ 26)), (1, .ref (ad Γ x1)), (2, .long x2), (4, .int x4), (5, .int x5), (6, .int x6), (7, .int x7)] [] I J) {I : MI} {J : MJ} (h : f_Suite_firstFailure_b101 x1 x2 x5 x6 x7 x8 kh I J) : Wp Γ 11 101 [(0, .ref (ad Γ 26)), (1, .ref (ad Γ x1)), (2, .long x2), (4, .int x4), (5, .int x5), (6, .int x6), (7, .int x7), (8, .long x8)] [] I J := by
  unfold f_Suite_firstFailure_b101 at h
  refine wp_iconst X dX6_firstFailure_101 ic_1 ?_
  refine wp_goto (tgt := 106) X dX6_firstFailure_102 (by decide) ?_
  exact w_Suite_firstFailure_b106 X Y hx1 hkh h

set_option maxRecDepth 100000 in
set_option maxHeartbeats 4000000 in
theorem w_Suite_firstFailure_b69 {Γ : Ctx} {Q : Int64 → MI → MJ → Prop} {x1 : Nat} {x2 : Int64} {x4 : Int32} {x5 : Int32} {x6 : Int32} {x7 : Int32} {kh : Int64 → Int32 → MI → MJ → Prop} (X : Cx Γ cX6_firstFailure 11 RX6 4) (Y : Rt Γ (Pl Q) (Option.some Jvm.ClassFile.FieldType.long)) (hx1 : okM x1) (hkh : ∀ (x2 : Int64) (x7 : Int32) (I : MI) (J : MJ), kh x2 x7 I J → Wp Γ 11 48 [(0, .ref (ad Γ 26)), (1, .ref (ad Γ x1)), (2, .long x2), (4, .int x4), (5, .int x5), (6, .int x6), (7, .int x7)] [] I J) {I : MI} {J : MJ} (h : f_Suite_firstFailure_b69 x1 x2 x4 x5 x6 x7 kh I J) : Wp Γ 11 69 [(0, .ref (ad Γ 26)), (1, .ref (ad Γ x1)), (2, .long x2), (4, .int x4), (5, .int x5), (6, .int x6), (7, .int x7)] [] I J := by
  unfold f_Suite_firstFailure_b69 at h
  refine wp_aload_n X dX6_firstFailure_69 0 rfl ?_
  refine gf_X6_22 (o' := 33) X sh_26 rfl dX6_firstFailure_70 ?_
  refine wp_iload X dX6_firstFailure_73 3 rfl ?_
  obtain ⟨hb75, h⟩ := h
  refine wp_lald X sh_33 hb75 dX6_firstFailure_75 ?_
  refine wp_aload_n X dX6_firstFailure_76 0 rfl ?_
  refine gf_X6_28 (o' := 35) X sh_26 rfl dX6_firstFailure_77 ?_
  refine wp_iload X dX6_firstFailure_80 6 rfl ?_
  obtain ⟨hb82, h⟩ := h
  refine wp_lald X sh_35 hb82 dX6_firstFailure_82 ?_
  refine cs_Words_joined X dX6_firstFailure_83 ml_X6_77  h (Nat.le_of_ble_eq_true rfl) (by decide) (fun r83 I83 J83 h => ?_)
  refine wp_lstore (L' := [(8, .long r83), (0, .ref (ad Γ 26)), (1, .ref (ad Γ x1)), (2, .long x2), (4, .int x4), (5, .int x5), (6, .int x6), (7, .int x7)]) X dX6_firstFailure_86 (by decide) rfl ?_
  refine wp_lload_n X dX6_firstFailure_88 3 rfl ?_
  refine wp_lconst X dX6_firstFailure_89 lc_0 ?_
  refine wp_lcmp_eq (tgt := 101) X dX6_firstFailure_90 dX6_firstFailure_91 (by decide) (fun hc => ?_) (fun hc => ?_)
  · have h := ite_t h hc
    refine wp_sub X [1, 2, 3, 4, 5, 6, 7, 0] rfl ?_
    exact w_Suite_firstFailure_b101 X Y hx1 hkh h
  · have h := ite_f h hc
    refine wp_lload X dX6_firstFailure_94 0 rfl ?_
    refine wp_lload_n X dX6_firstFailure_96 3 rfl ?_
    refine wp_lcmp_ge (tgt := 105) X dX6_firstFailure_97 dX6_firstFailure_98 (by decide) (fun hc => ?_) (fun hc => ?_)
    · have h := ite_t h hc
      refine wp_iconst X dX6_firstFailure_105 ic_0 ?_
      refine wp_sub X [1, 2, 3, 4, 5, 6, 7, 0] rfl ?_
      exact w_Suite_firstFailure_b106 X Y hx1 hkh h
    · have h := ite_f h hc
      refine wp_sub X [1, 2, 3, 4, 5, 6, 7, 0] rfl ?_
      exact w_Suite_firstFailure_b101 X Y hx1 hkh h

set_option maxRecDepth 100000 in
set_option maxHeartbeats 4000000 in
theorem w_Suite_firstFailure_L48 {Γ : Ctx} {Q : Int64 → MI → MJ → Prop} {x1 : Nat} {x4 : Int32} {x5 : Int32} {x6 : Int32} {k141 : Int64 → MI → MJ → Prop} (X : Cx Γ cX6_firstFailure 11 RX6 4) (Y : Rt Γ (Pl Q) (Option.some Jvm.ClassFile.FieldType.long)) (hx1 : okM x1) (hk141 : ∀ (x2 : Int64) (I : MI) (J : MJ), k141 x2 I J → Wp Γ 11 141 [(0, .ref (ad Γ 26)), (1, .ref (ad Γ x1)), (2, .long x2), (4, .int x4)] [] I J) : ∀ (n : Nat) (x2 : Int64) (x7 : Int32) (I : MI) (J : MJ), f_Suite_firstFailure_L48 x1 x4 x5 x6 k141 n x2 x7 I J → Wp Γ 11 48 [(0, .ref (ad Γ 26)), (1, .ref (ad Γ x1)), (2, .long x2), (4, .int x4), (5, .int x5), (6, .int x6), (7, .int x7)] [] I J := by
  intro n
  induction n with
  | zero => intro x2 x7 I J h; exact absurd h (by simp [f_Suite_firstFailure_L48])
  | succ n ih =>
  intro x2 x7 I J h
  unfold f_Suite_firstFailure_L48 at h
  refine wp_iload X dX6_firstFailure_48 6 rfl ?_
  refine wp_aload_n X dX6_firstFailure_50 0 rfl ?_
  refine gf_X6_81 X sh_26 dX6_firstFailure_51 ?_
  refine wp_icmp_ge (tgt := 141) X dX6_firstFailure_54 (by decide) (fun hc => ?_) (fun hc => ?_)
  · have h := ite_t h hc
    refine wp_sub X [0, 1, 2, 3] rfl ?_
    exact hk141 _ _ _ h
  · have h := ite_f h hc
    refine wp_iload X dX6_firstFailure_57 4 rfl ?_
    refine wp_iconst X dX6_firstFailure_59 ic_m1 ?_
    refine wp_icmp_ne (tgt := 69) X dX6_firstFailure_60 (by decide) (fun hc => ?_) (fun hc => ?_)
    · have h := ite_f h hc
      exact w_Suite_firstFailure_b69 X Y hx1 ih h
    · have h := ite_t h hc
      refine wp_iload X dX6_firstFailure_63 5 rfl ?_
      refine wp_iconst X dX6_firstFailure_65 ic_m1 ?_
      refine wp_icmp_eq (tgt := 141) X dX6_firstFailure_66 (by decide) (fun hc => ?_) (fun hc => ?_)
      · have h := ite_t h hc
        refine wp_sub X [0, 1, 2, 3] rfl ?_
        exact hk141 _ _ _ h
      · have h := ite_f h hc
        exact w_Suite_firstFailure_b69 X Y hx1 ih h

set_option maxRecDepth 100000 in
set_option maxHeartbeats 4000000 in
theorem w_Suite_firstFailure_L5 {Γ : Ctx} {Q : Int64 → MI → MJ → Prop} {x1 : Nat} {k147 : Int64 → MI → MJ → Prop} (X : Cx Γ cX6_firstFailure 11 RX6 4) (Y : Rt Γ (Pl Q) (Option.some Jvm.ClassFile.FieldType.long)) (hx1 : okM x1) (hk147 : ∀ (x2 : Int64) (I : MI) (J : MJ), k147 x2 I J → Wp Γ 11 147 [(2, .long x2)] [] I J) : ∀ (n : Nat) (x2 : Int64) (x4 : Int32) (I : MI) (J : MJ), f_Suite_firstFailure_L5 x1 k147 n x2 x4 I J → Wp Γ 11 5 [(0, .ref (ad Γ 26)), (1, .ref (ad Γ x1)), (2, .long x2), (4, .int x4)] [] I J := by
  intro n
  induction n with
  | zero => intro x2 x4 I J h; exact absurd h (by simp [f_Suite_firstFailure_L5])
  | succ n ih =>
  intro x2 x4 I J h
  unfold f_Suite_firstFailure_L5 at h
  refine wp_iload X dX6_firstFailure_5 3 rfl ?_
  refine wp_aload_n X dX6_firstFailure_7 0 rfl ?_
  refine gf_X6_60 X sh_26 dX6_firstFailure_8 ?_
  refine wp_icmp_ge (tgt := 147) X dX6_firstFailure_11 (by decide) (fun hc => ?_) (fun hc => ?_)
  · have h := ite_t h hc
    refine wp_sub X [2] rfl ?_
    exact hk147 _ _ _ h
  · have h := ite_f h hc
    refine wp_aload_n X dX6_firstFailure_14 0 rfl ?_
    refine gf_X6_12 (o' := 27) X sh_26 rfl dX6_firstFailure_15 ?_
    refine wp_iconst X dX6_firstFailure_18 ic_0 ?_
    refine wp_aload_n X dX6_firstFailure_19 0 rfl ?_
    refine gf_X6_22 (o' := 33) X sh_26 rfl dX6_firstFailure_20 ?_
    refine wp_iload X dX6_firstFailure_23 3 rfl ?_
    obtain ⟨hb25, h⟩ := h
    refine wp_lald X sh_33 hb25 dX6_firstFailure_25 ?_
    refine cv_Machine_runFrom X dX6_firstFailure_26 ml_X6_103 okM_27 h (Nat.le_of_ble_eq_true rfl) (by decide) (fun r26 I26 J26 h => ?_)
    refine wp_istore (L' := [(5, .int r26), (0, .ref (ad Γ 26)), (1, .ref (ad Γ x1)), (2, .long x2), (4, .int x4)]) X dX6_firstFailure_29 (by decide) rfl ?_
    refine wp_aload_n X dX6_firstFailure_31 2 rfl ?_
    refine wp_iconst X dX6_firstFailure_32 ic_0 ?_
    refine wp_aload_n X dX6_firstFailure_33 1 rfl ?_
    refine gf_X6_22 (o' := 33) X sh_26 rfl dX6_firstFailure_34 ?_
    refine wp_iload X dX6_firstFailure_37 4 rfl ?_
    obtain ⟨hb39, h⟩ := h
    refine wp_lald X sh_33 hb39 dX6_firstFailure_39 ?_
    refine cv_Machine_runFrom X dX6_firstFailure_40 ml_X6_103 hx1 h (Nat.le_of_ble_eq_true rfl) (by decide) (fun r40 I40 J40 h => ?_)
    refine wp_istore (L' := [(6, .int r40), (5, .int r26), (0, .ref (ad Γ 26)), (1, .ref (ad Γ x1)), (2, .long x2), (4, .int x4)]) X dX6_firstFailure_43 (by decide) rfl ?_
    refine wp_iconst X dX6_firstFailure_45 ic_0 ?_
    refine wp_istore (L' := [(7, .int 0), (6, .int r40), (5, .int r26), (0, .ref (ad Γ 26)), (1, .ref (ad Γ x1)), (2, .long x2), (4, .int x4)]) X dX6_firstFailure_46 (by decide) rfl ?_
    obtain ⟨n, h⟩ := h
    refine wp_sub X [3, 4, 5, 6, 2, 1, 0] rfl ?_
    refine w_Suite_firstFailure_L48 X Y hx1 ?_ n _ _ _ _ h
    · intro z141_x2 I J h
      exact w_Suite_firstFailure_b141 X Y hx1 ih h

set_option maxRecDepth 100000 in
set_option maxHeartbeats 4000000 in
theorem w_Suite_firstFailure_b0 {Γ : Ctx} {Q : Int64 → MI → MJ → Prop} {x1 : Nat}  (X : Cx Γ cX6_firstFailure 11 RX6 4) (Y : Rt Γ (Pl Q) (Option.some Jvm.ClassFile.FieldType.long)) (hx1 : okM x1)  {I : MI} {J : MJ} (h : f_Suite_firstFailure x1 I J Q) : Wp Γ 11 0 [(0, .ref (ad Γ 26)), (1, .ref (ad Γ x1))] [] I J := by
  unfold f_Suite_firstFailure at h
  refine wp_lconst X dX6_firstFailure_0 lc_0 ?_
  refine wp_lstore_n (L' := [(2, .long 0), (0, .ref (ad Γ 26)), (1, .ref (ad Γ x1))]) X dX6_firstFailure_1 rfl (by decide) rfl ?_
  refine wp_iconst X dX6_firstFailure_2 ic_0 ?_
  refine wp_istore (L' := [(4, .int 0), (2, .long 0), (0, .ref (ad Γ 26)), (1, .ref (ad Γ x1))]) X dX6_firstFailure_3 (by decide) rfl ?_
  obtain ⟨n, h⟩ := h
  refine wp_sub X [2, 3, 1, 0] rfl ?_
  refine w_Suite_firstFailure_L5 X Y hx1 ?_ n _ _ _ _ h
  · intro z147_x2 I J h
    refine wp_lload_n X dX6_firstFailure_147 0 rfl ?_
    exact wp_lret X Y dX6_firstFailure_148 ⟨_, rfl, h⟩

theorem c_Suite_firstFailure {l : Launch} {g : GE} (hg : Inj g) {I : MI} {J : MJ} {Q : Int64 → MI → MJ → Prop} {x1 : Nat} (hx1 : okM x1) (h : f_Suite_firstFailure x1 I J Q) : Cm l g yX6_firstFailure cX6_firstFailure 11 (Option.some Jvm.ClassFile.FieldType.long) 4 [.ref (g.1 26), .ref (g.1 x1)] I J (Pl Q) := by
  refine Cm.of (As := fun ad => [.ref (ad 26), .ref (ad x1)]) hg pn_X6 (Nat.le_of_ble_eq_true rfl) ?_
  exact (fun Γ _ _ X Y => w_Suite_firstFailure_b0 X Y hx1 h)
theorem cv_Suite_firstFailure {Γ : Ctx} {cc : ByteArray} {nL d pc index : Nat} {own : String} {L : List (Nat × Value)} {rest : List Value} {I : MI} {J : MJ} {Q : Int64 → MI → MJ → Prop} {x1 : Nat} (X : Cx Γ cc nL own d) (hd : decode cc pc = .ok (.invokevirtual index, 3)) (hlink : Cond.methodLink own index yX6_firstFailure ∈ TT) (hx1 : okM x1) (h : f_Suite_firstFailure x1 I J Q) (hrest : (rest.map fun v => v.category).sum ≤ 8) (hdd : 4 + 1 ≤ d) (kk : ∀ (r : Int64) (I' : MI) (J' : MJ), Q r I' J' → Wp Γ nL (pc + 3) L (.long r :: rest) I' J') : Wp Γ nL pc L (.ref (ad Γ x1) :: .ref (ad Γ 26) :: rest) I J :=
  wp_callV (As := [.ref (ad Γ x1)]) (rest := rest) (T := TX6) (N := 9) X hd hlink mv_X6_firstFailure sh_26 (by decide) rfl (c_Suite_firstFailure X.inj hx1 h) rfl rfl hrest hdd (fun v I' J' hv => by obtain ⟨r, rfl, hq⟩ := hv; exact kk r I' J' hq)
theorem dX10_passes_0 : decode cX10_passes 0 = .ok (.aload_n 0, 1) := by decide +kernel
theorem dX10_passes_1 : decode cX10_passes 1 = .ok (.iload_n 2, 1) := by decide +kernel
theorem dX10_passes_2 : decode cX10_passes 2 = .ok (.invokevirtual 162, 3) := by decide +kernel
theorem dX10_passes_5 : decode cX10_passes 5 = .ok (.astore 4, 2) := by decide +kernel
theorem dX10_passes_7 : decode cX10_passes 7 = .ok (.aload 4, 2) := by decide +kernel
theorem dX10_passes_9 : decode cX10_passes 9 = .ok (.ifnull 12, 3) := by decide +kernel
theorem dX10_passes_12 : decode cX10_passes 12 = .ok (.aload_n 0, 1) := by decide +kernel
theorem dX10_passes_13 : decode cX10_passes 13 = .ok (.iload_n 1, 1) := by decide +kernel
theorem dX10_passes_14 : decode cX10_passes 14 = .ok (.iload_n 3, 1) := by decide +kernel
theorem dX10_passes_15 : decode cX10_passes 15 = .ok (.invokevirtual 217, 3) := by decide +kernel
theorem dX10_passes_18 : decode cX10_passes 18 = .ok (.ifCond .ne 7, 3) := by decide +kernel
theorem dX10_passes_21 : decode cX10_passes 21 = .ok (.ldc2_w 183, 3) := by decide +kernel
theorem dX10_passes_24 : decode cX10_passes 24 = .ok (.lreturn, 1) := by decide +kernel
theorem dX10_passes_25 : decode cX10_passes 25 = .ok (.aload_n 0, 1) := by decide +kernel
theorem dX10_passes_26 : decode cX10_passes 26 = .ok (.getfield 39, 3) := by decide +kernel
theorem dX10_passes_29 : decode cX10_passes 29 = .ok (.aload 4, 2) := by decide +kernel
theorem dX10_passes_31 : decode cX10_passes 31 = .ok (.invokevirtual 223, 3) := by decide +kernel
theorem dX10_passes_34 : decode cX10_passes 34 = .ok (.lreturn, 1) := by decide +kernel
def f_School_passes (x1 : Int32) (x2 : Int32) (x3 : Int32) (I : MI) (J : MJ) (Q : Int64 → MI → MJ → Prop) : Prop :=
  f_School_machineAt x2 I J (fun r2 I2 J2 => (match r2 with | none => Q (-1) I2 J2 | some a9 => okM a9 ∧ f_School_gatherSuite x1 x3 I2 J2 (fun r15 I15 J15 => (if r15 = 0 then Q (-1) I15 J15 else f_Suite_firstFailure a9 I15 J15 (fun r31 I31 J31 => Q r31 I31 J31)))))
set_option maxRecDepth 100000 in
set_option maxHeartbeats 4000000 in
theorem w_School_passes_b0 {Γ : Ctx} {Q : Int64 → MI → MJ → Prop} {x1 : Int32} {x2 : Int32} {x3 : Int32}  (X : Cx Γ cX10_passes 5 RX10 7) (Y : Rt Γ (Pl Q) (Option.some Jvm.ClassFile.FieldType.long))   {I : MI} {J : MJ} (h : f_School_passes x1 x2 x3 I J Q) : Wp Γ 5 0 [(0, .ref (ad Γ 0)), (1, .int x1), (2, .int x2), (3, .int x3)] [] I J := by
  unfold f_School_passes at h
  refine wp_aload_n X dX10_passes_0 0 rfl ?_
  refine wp_iload_n X dX10_passes_1 2 rfl ?_
  refine cv_School_machineAt X dX10_passes_2 ml_X10_162  h (Nat.le_of_ble_eq_true rfl) (by decide) (fun r2 I2 J2 h => ?_)
  refine wp_astoreQ (L' := [(4, rfN (ad Γ) r2), (0, .ref (ad Γ 0)), (1, .int x1), (2, .int x2), (3, .int x3)]) X dX10_passes_5 (by decide) rfl ?_
  refine wp_aloadQ X dX10_passes_7 0 rfl ?_
  refine wp_ifnull (q := r2) (tgt := 21) X dX10_passes_9 (by decide) ?_ ?_
  · intro hq; subst hq
    refine wp_ldc2 X kl_X10_183 dX10_passes_21 ?_
    exact wp_lret X Y dX10_passes_24 ⟨_, rfl, h⟩
  · intro a9 hq; subst hq; obtain ⟨oka9, h⟩ := h
    refine wp_aload_n X dX10_passes_12 1 rfl ?_
    refine wp_iload_n X dX10_passes_13 2 rfl ?_
    refine wp_iload_n X dX10_passes_14 4 rfl ?_
    refine cv_School_gatherSuite X dX10_passes_15 ml_X10_217  h (Nat.le_of_ble_eq_true rfl) (by decide) (fun r15 I15 J15 h => ?_)
    refine wp_if_ne (tgt := 25) X dX10_passes_18 (by decide) (fun hc => ?_) (fun hc => ?_)
    · have h := ite_f h hc
      refine wp_aload_n X dX10_passes_25 1 rfl ?_
      refine gf_X10_39 (o' := 26) X sh_0 rfl dX10_passes_26 ?_
      refine wp_aload X dX10_passes_29 0 rfl ?_
      refine cv_Suite_firstFailure X dX10_passes_31 ml_X10_223 oka9 h (Nat.le_of_ble_eq_true rfl) (by decide) (fun r31 I31 J31 h => ?_)
      exact wp_lret X Y dX10_passes_34 ⟨_, rfl, h⟩
    · have h := ite_t h hc
      refine wp_ldc2 X kl_X10_183 dX10_passes_21 ?_
      exact wp_lret X Y dX10_passes_24 ⟨_, rfl, h⟩

theorem c_School_passes {l : Launch} {g : GE} (hg : Inj g) {I : MI} {J : MJ} {Q : Int64 → MI → MJ → Prop} {x1 : Int32} {x2 : Int32} {x3 : Int32}  (h : f_School_passes x1 x2 x3 I J Q) : Cm l g yX10_passes cX10_passes 5 (Option.some Jvm.ClassFile.FieldType.long) 7 [.ref (g.1 0), .int x1, .int x2, .int x3] I J (Pl Q) := by
  refine Cm.of (As := fun ad => [.ref (ad 0), .int x1, .int x2, .int x3]) hg pn_X10 (Nat.le_of_ble_eq_true rfl) ?_
  exact (fun Γ _ _ X Y => w_School_passes_b0 X Y  h)
theorem cv_School_passes {Γ : Ctx} {cc : ByteArray} {nL d pc index : Nat} {own : String} {L : List (Nat × Value)} {rest : List Value} {I : MI} {J : MJ} {Q : Int64 → MI → MJ → Prop} {x1 : Int32} {x2 : Int32} {x3 : Int32} (X : Cx Γ cc nL own d) (hd : decode cc pc = .ok (.invokevirtual index, 3)) (hlink : Cond.methodLink own index yX10_passes ∈ TT)  (h : f_School_passes x1 x2 x3 I J Q) (hrest : (rest.map fun v => v.category).sum ≤ 8) (hdd : 7 + 1 ≤ d) (kk : ∀ (r : Int64) (I' : MI) (J' : MJ), Q r I' J' → Wp Γ nL (pc + 3) L (.long r :: rest) I' J') : Wp Γ nL pc L (.int x3 :: .int x2 :: .int x1 :: .ref (ad Γ 0) :: rest) I J :=
  wp_callV (As := [.int x1, .int x2, .int x3]) (rest := rest) (T := TX10) (N := 9) X hd hlink mv_X10_passes sh_0 (by decide) rfl (c_School_passes X.inj  h) rfl rfl hrest hdd (fun v I' J' hv => by obtain ⟨r, rfl, hq⟩ := hv; exact kk r I' J' hq)
theorem dX10_teachingFault_0 : decode cX10_teachingFault 0 = .ok (.iload_n 0, 1) := by decide +kernel
theorem dX10_teachingFault_1 : decode cX10_teachingFault 1 = .ok (.ifCond .lt 8, 3) := by decide +kernel
theorem dX10_teachingFault_4 : decode cX10_teachingFault 4 = .ok (.iload_n 0, 1) := by decide +kernel
theorem dX10_teachingFault_5 : decode cX10_teachingFault 5 = .ok (.iconst 2, 1) := by decide +kernel
theorem dX10_teachingFault_6 : decode cX10_teachingFault 6 = .ok (.if_icmp .le 5, 3) := by decide +kernel
theorem dX10_teachingFault_9 : decode cX10_teachingFault 9 = .ok (.iconst 4, 1) := by decide +kernel
theorem dX10_teachingFault_10 : decode cX10_teachingFault 10 = .ok (.ireturn, 1) := by decide +kernel
theorem dX10_teachingFault_11 : decode cX10_teachingFault 11 = .ok (.iload_n 1, 1) := by decide +kernel
theorem dX10_teachingFault_12 : decode cX10_teachingFault 12 = .ok (.ifCond .ge 5, 3) := by decide +kernel
theorem dX10_teachingFault_15 : decode cX10_teachingFault 15 = .ok (.iconst 3, 1) := by decide +kernel
theorem dX10_teachingFault_16 : decode cX10_teachingFault 16 = .ok (.ireturn, 1) := by decide +kernel
theorem dX10_teachingFault_17 : decode cX10_teachingFault 17 = .ok (.iload_n 1, 1) := by decide +kernel
theorem dX10_teachingFault_18 : decode cX10_teachingFault 18 = .ok (.bipush 30, 2) := by decide +kernel
theorem dX10_teachingFault_20 : decode cX10_teachingFault 20 = .ok (.if_icmp .le 7, 3) := by decide +kernel
theorem dX10_teachingFault_23 : decode cX10_teachingFault 23 = .ok (.iconst 2, 1) := by decide +kernel
theorem dX10_teachingFault_24 : decode cX10_teachingFault 24 = .ok (.goto 4, 3) := by decide +kernel
theorem dX10_teachingFault_27 : decode cX10_teachingFault 27 = .ok (.iconst 0, 1) := by decide +kernel
theorem dX10_teachingFault_28 : decode cX10_teachingFault 28 = .ok (.ireturn, 1) := by decide +kernel
def f_School_teachingFault (x0 : Int32) (x1 : Int32) (I : MI) (J : MJ) (Q : Int32 → MI → MJ → Prop) : Prop :=
  (if x0 < 0 then Q 4 I J else (if x0 ≤ 2 then (if 0 ≤ x1 then (if x1 ≤ 30 then Q 0 I J else Q 2 I J) else Q 3 I J) else Q 4 I J))
set_option maxRecDepth 100000 in
set_option maxHeartbeats 4000000 in
theorem w_School_teachingFault_b0 {Γ : Ctx} {Q : Int32 → MI → MJ → Prop} {x0 : Int32} {x1 : Int32}  (X : Cx Γ cX10_teachingFault 2 RX10 0) (Y : Rt Γ (Pi Q) (Option.some Jvm.ClassFile.FieldType.int))   {I : MI} {J : MJ} (h : f_School_teachingFault x0 x1 I J Q) : Wp Γ 2 0 [(0, .int x0), (1, .int x1)] [] I J := by
  unfold f_School_teachingFault at h
  refine wp_iload_n X dX10_teachingFault_0 0 rfl ?_
  refine wp_if_lt (tgt := 9) X dX10_teachingFault_1 (by decide) (fun hc => ?_) (fun hc => ?_)
  · have h := ite_t h hc
    refine wp_iconst X dX10_teachingFault_9 ic_4 ?_
    exact wp_iret X Y dX10_teachingFault_10 ⟨_, rfl, h⟩
  · have h := ite_f h hc
    refine wp_iload_n X dX10_teachingFault_4 0 rfl ?_
    refine wp_iconst X dX10_teachingFault_5 ic_2 ?_
    refine wp_icmp_le (tgt := 11) X dX10_teachingFault_6 (by decide) (fun hc => ?_) (fun hc => ?_)
    · have h := ite_t h hc
      refine wp_iload_n X dX10_teachingFault_11 1 rfl ?_
      refine wp_if_ge (tgt := 17) X dX10_teachingFault_12 (by decide) (fun hc => ?_) (fun hc => ?_)
      · have h := ite_t h hc
        refine wp_iload_n X dX10_teachingFault_17 1 rfl ?_
        refine wp_bipush X dX10_teachingFault_18 bi_30 ?_
        refine wp_icmp_le (tgt := 27) X dX10_teachingFault_20 (by decide) (fun hc => ?_) (fun hc => ?_)
        · have h := ite_t h hc
          refine wp_iconst X dX10_teachingFault_27 ic_0 ?_
          exact wp_iret X Y dX10_teachingFault_28 ⟨_, rfl, h⟩
        · have h := ite_f h hc
          refine wp_iconst X dX10_teachingFault_23 ic_2 ?_
          refine wp_goto (tgt := 28) X dX10_teachingFault_24 (by decide) ?_
          exact wp_iret X Y dX10_teachingFault_28 ⟨_, rfl, h⟩
      · have h := ite_f h hc
        refine wp_iconst X dX10_teachingFault_15 ic_3 ?_
        exact wp_iret X Y dX10_teachingFault_16 ⟨_, rfl, h⟩
    · have h := ite_f h hc
      refine wp_iconst X dX10_teachingFault_9 ic_4 ?_
      exact wp_iret X Y dX10_teachingFault_10 ⟨_, rfl, h⟩

theorem c_School_teachingFault {l : Launch} {g : GE} (hg : Inj g) {I : MI} {J : MJ} {Q : Int32 → MI → MJ → Prop} {x0 : Int32} {x1 : Int32}  (h : f_School_teachingFault x0 x1 I J Q) : Cm l g yX10_teachingFault cX10_teachingFault 2 (Option.some Jvm.ClassFile.FieldType.int) 0 [.int x0, .int x1] I J (Pi Q) := by
  refine Cm.of (As := fun ad => [.int x0, .int x1]) hg pn_X10 (Nat.le_of_ble_eq_true rfl) ?_
  exact (fun Γ _ _ X Y => w_School_teachingFault_b0 X Y  h)
theorem cs_School_teachingFault {Γ : Ctx} {cc : ByteArray} {nL d pc index : Nat} {own : String} {L : List (Nat × Value)} {rest : List Value} {I : MI} {J : MJ} {Q : Int32 → MI → MJ → Prop} {x0 : Int32} {x1 : Int32} (X : Cx Γ cc nL own d) (hd : decode cc pc = .ok (.invokestatic index, 3)) (hlink : Cond.methodLink own index yX10_teachingFault ∈ TT)  (h : f_School_teachingFault x0 x1 I J Q) (hrest : (rest.map fun v => v.category).sum ≤ 8) (hdd : 0 + 1 ≤ d) (kk : ∀ (r : Int32) (I' : MI) (J' : MJ), Q r I' J' → Wp Γ nL (pc + 3) L (.int r :: rest) I' J') : Wp Γ nL pc L (.int x1 :: .int x0 :: rest) I J :=
  wp_callS (As := [.int x0, .int x1]) (rest := rest) X hd hlink mv_X10_teachingFault (c_School_teachingFault X.inj  h) rfl rfl hrest hdd (fun v I' J' hv => by obtain ⟨r, rfl, hq⟩ := hv; exact kk r I' J' hq)
theorem dX4_layTeacher_0 : decode cX4_layTeacher 0 = .ok (.aload_n 0, 1) := by decide +kernel
theorem dX4_layTeacher_1 : decode cX4_layTeacher 1 = .ok (.getfield 18, 3) := by decide +kernel
theorem dX4_layTeacher_4 : decode cX4_layTeacher 4 = .ok (.aload_n 2, 1) := by decide +kernel
theorem dX4_layTeacher_5 : decode cX4_layTeacher 5 = .ok (.invokevirtual 26, 3) := by decide +kernel
theorem dX4_layTeacher_8 : decode cX4_layTeacher 8 = .ok (.aload_n 0, 1) := by decide +kernel
theorem dX4_layTeacher_9 : decode cX4_layTeacher 9 = .ok (.iconst 4, 1) := by decide +kernel
theorem dX4_layTeacher_10 : decode cX4_layTeacher 10 = .ok (.iload_n 1, 1) := by decide +kernel
theorem dX4_layTeacher_11 : decode cX4_layTeacher 11 = .ok (.iadd, 1) := by decide +kernel
theorem dX4_layTeacher_12 : decode cX4_layTeacher 12 = .ok (.putfield 9, 3) := by decide +kernel
theorem dX4_layTeacher_15 : decode cX4_layTeacher 15 = .ok (.aload_n 0, 1) := by decide +kernel
theorem dX4_layTeacher_16 : decode cX4_layTeacher 16 = .ok (.iload_n 1, 1) := by decide +kernel
theorem dX4_layTeacher_17 : decode cX4_layTeacher 17 = .ok (.ifCond .ne 8, 3) := by decide +kernel
theorem dX4_layTeacher_20 : decode cX4_layTeacher 20 = .ok (.bipush 30, 2) := by decide +kernel
theorem dX4_layTeacher_22 : decode cX4_layTeacher 22 = .ok (.goto 4, 3) := by decide +kernel
theorem dX4_layTeacher_25 : decode cX4_layTeacher 25 = .ok (.iload_n 3, 1) := by decide +kernel
theorem dX4_layTeacher_26 : decode cX4_layTeacher 26 = .ok (.putfield 33, 3) := by decide +kernel
theorem dX4_layTeacher_29 : decode cX4_layTeacher 29 = .ok (.aload_n 0, 1) := by decide +kernel
theorem dX4_layTeacher_30 : decode cX4_layTeacher 30 = .ok (.iconst 0, 1) := by decide +kernel
theorem dX4_layTeacher_31 : decode cX4_layTeacher 31 = .ok (.putfield 36, 3) := by decide +kernel
theorem dX4_layTeacher_34 : decode cX4_layTeacher 34 = .ok (.return_, 1) := by decide +kernel
def f_Place_layTeacher_b26 (x0 : Nat) (s0 : Nat) (s1 : Int32) (Q : MI → MJ → Prop) (I : MI) (J : MJ) : Prop :=
  ∀ I26 : MI, I26 = sI I s0 (upd (I s0) 2 s1) → ∀ I31 : MI, I31 = sI I26 x0 (upd (I26 x0) 3 0) → Q I31 J
def f_Place_layTeacher (o : Nat) (x1 : Int32) (x2 : Nat) (x3 : Int32) (I : MI) (J : MJ) (Q : MI → MJ → Prop) : Prop :=
  f_Machine_become (o + 1) x2 I J (fun I5 J5 => ∀ I12 : MI, I12 = sI I5 o (upd (I5 o) 0 (4 + x1)) → (if x1 = 0 then f_Place_layTeacher_b26 o o 30 Q I12 J5 else f_Place_layTeacher_b26 o o x3 Q I12 J5))
set_option maxRecDepth 100000 in
set_option maxHeartbeats 4000000 in
theorem w_Place_layTeacher_b26 {Γ : Ctx} {Q : MI → MJ → Prop} {x0 : Nat} {s0 : Nat} {s1 : Int32}  (X : Cx Γ cX4_layTeacher 4 RX4 2) (Y : Rt Γ (Pv Q) (Option.none : Option Jvm.ClassFile.FieldType)) (hx0 : okP x0) (hs0 : okP s0)  {I : MI} {J : MJ} (h : f_Place_layTeacher_b26 x0 s0 s1 Q I J) : Wp Γ 4 26 [(0, .ref (ad Γ x0))] [.int s1, .ref (ad Γ s0)] I J := by
  unfold f_Place_layTeacher_b26 at h
  refine pf_X4_33 X hs0.1 dX4_layTeacher_26 (fun I26 eI26 => ?_)
  have h := h I26 eI26
  refine wp_aload_n X dX4_layTeacher_29 0 rfl ?_
  refine wp_iconst X dX4_layTeacher_30 ic_0 ?_
  refine pf_X4_36 X hx0.1 dX4_layTeacher_31 (fun I31 eI31 => ?_)
  have h := h I31 eI31
  exact wp_vret X Y dX4_layTeacher_34 ⟨rfl, h⟩

set_option maxRecDepth 100000 in
set_option maxHeartbeats 4000000 in
theorem w_Place_layTeacher_b0 {Γ : Ctx} {Q : MI → MJ → Prop} {o : Nat} {x1 : Int32} {x2 : Nat} {x3 : Int32}  (X : Cx Γ cX4_layTeacher 4 RX4 2) (Y : Rt Γ (Pv Q) (Option.none : Option Jvm.ClassFile.FieldType)) (ho : okP o) (hx2 : okM x2)  {I : MI} {J : MJ} (h : f_Place_layTeacher o x1 x2 x3 I J Q) : Wp Γ 4 0 [(0, .ref (ad Γ o)), (1, .int x1), (2, .ref (ad Γ x2)), (3, .int x3)] [] I J := by
  unfold f_Place_layTeacher at h
  refine wp_aload_n X dX4_layTeacher_0 0 rfl ?_
  refine gf_X4_18 (o' := o + 1) X ho.1 rfl dX4_layTeacher_1 ?_
  refine wp_aload_n X dX4_layTeacher_4 2 rfl ?_
  refine cv_Machine_become X dX4_layTeacher_5 ml_X4_26 ho.2.1 hx2 h (Nat.le_of_ble_eq_true rfl) (by decide) (fun I5 J5 h => ?_)
  refine wp_aload_n X dX4_layTeacher_8 0 rfl ?_
  refine wp_iconst X dX4_layTeacher_9 ic_4 ?_
  refine wp_iload_n X dX4_layTeacher_10 1 rfl ?_
  refine wp_iadd X dX4_layTeacher_11 ?_
  refine pf_X4_9 X ho.1 dX4_layTeacher_12 (fun I12 eI12 => ?_)
  have h := h I12 eI12
  refine wp_aload_n X dX4_layTeacher_15 0 rfl ?_
  refine wp_iload_n X dX4_layTeacher_16 1 rfl ?_
  refine wp_if_ne (tgt := 25) X dX4_layTeacher_17 (by decide) (fun hc => ?_) (fun hc => ?_)
  · have h := ite_f h hc
    refine wp_iload_n X dX4_layTeacher_25 3 rfl ?_
    refine wp_sub X [0] rfl ?_
    exact w_Place_layTeacher_b26 X Y ho ho h
  · have h := ite_t h hc
    refine wp_bipush X dX4_layTeacher_20 bi_30 ?_
    refine wp_goto (tgt := 26) X dX4_layTeacher_22 (by decide) ?_
    refine wp_sub X [0] rfl ?_
    exact w_Place_layTeacher_b26 X Y ho ho h

theorem c_Place_layTeacher {l : Launch} {g : GE} (hg : Inj g) {I : MI} {J : MJ} {Q : MI → MJ → Prop} {o : Nat} {x1 : Int32} {x2 : Nat} {x3 : Int32} (ho : okP o) (hx2 : okM x2) (h : f_Place_layTeacher o x1 x2 x3 I J Q) : Cm l g yX4_layTeacher cX4_layTeacher 4 (Option.none : Option Jvm.ClassFile.FieldType) 2 [.ref (g.1 o), .int x1, .ref (g.1 x2), .int x3] I J (Pv Q) := by
  refine Cm.of (As := fun ad => [.ref (ad o), .int x1, .ref (ad x2), .int x3]) hg pn_X4 (Nat.le_of_ble_eq_true rfl) ?_
  exact (fun Γ _ _ X Y => w_Place_layTeacher_b0 X Y ho hx2 h)
theorem cv_Place_layTeacher {Γ : Ctx} {cc : ByteArray} {nL d pc index : Nat} {own : String} {L : List (Nat × Value)} {rest : List Value} {I : MI} {J : MJ} {Q : MI → MJ → Prop} {o : Nat} {x1 : Int32} {x2 : Nat} {x3 : Int32} (X : Cx Γ cc nL own d) (hd : decode cc pc = .ok (.invokevirtual index, 3)) (hlink : Cond.methodLink own index yX4_layTeacher ∈ TT) (ho : okP o) (hx2 : okM x2) (h : f_Place_layTeacher o x1 x2 x3 I J Q) (hrest : (rest.map fun v => v.category).sum ≤ 8) (hdd : 2 + 1 ≤ d) (kk : ∀ (I' : MI) (J' : MJ), Q I' J' → Wp Γ nL (pc + 3) L rest I' J') : Wp Γ nL pc L (.int x3 :: .ref (ad Γ x2) :: .int x1 :: .ref (ad Γ o) :: rest) I J :=
  wp_callV (As := [.int x1, .ref (ad Γ x2), .int x3]) (rest := rest) (T := TX4) (N := 7) X hd hlink mv_X4_layTeacher ho.1 (by decide) rfl (c_Place_layTeacher X.inj ho hx2 h) rfl rfl hrest hdd (fun v I' J' hv => by obtain ⟨rfl, hq⟩ := hv; exact kk I' J' hq)
theorem dX10_teacher_0 : decode cX10_teacher 0 = .ok (.iload_n 1, 1) := by decide +kernel
theorem dX10_teacher_1 : decode cX10_teacher 1 = .ok (.invokestatic 69, 3) := by decide +kernel
theorem dX10_teacher_4 : decode cX10_teacher 4 = .ok (.istore 5, 2) := by decide +kernel
theorem dX10_teacher_6 : decode cX10_teacher 6 = .ok (.iload 5, 2) := by decide +kernel
theorem dX10_teacher_8 : decode cX10_teacher 8 = .ok (.ifCond .ne 10, 3) := by decide +kernel
theorem dX10_teacher_11 : decode cX10_teacher 11 = .ok (.aload_n 0, 1) := by decide +kernel
theorem dX10_teacher_12 : decode cX10_teacher 12 = .ok (.iload_n 3, 1) := by decide +kernel
theorem dX10_teacher_13 : decode cX10_teacher 13 = .ok (.invokevirtual 100, 3) := by decide +kernel
theorem dX10_teacher_16 : decode cX10_teacher 16 = .ok (.istore 5, 2) := by decide +kernel
theorem dX10_teacher_18 : decode cX10_teacher 18 = .ok (.iload 5, 2) := by decide +kernel
theorem dX10_teacher_20 : decode cX10_teacher 20 = .ok (.ifCond .ne 11, 3) := by decide +kernel
theorem dX10_teacher_23 : decode cX10_teacher 23 = .ok (.iload_n 2, 1) := by decide +kernel
theorem dX10_teacher_24 : decode cX10_teacher 24 = .ok (.iload 4, 2) := by decide +kernel
theorem dX10_teacher_26 : decode cX10_teacher 26 = .ok (.invokestatic 227, 3) := by decide +kernel
theorem dX10_teacher_29 : decode cX10_teacher 29 = .ok (.istore 5, 2) := by decide +kernel
theorem dX10_teacher_31 : decode cX10_teacher 31 = .ok (.iload 5, 2) := by decide +kernel
theorem dX10_teacher_33 : decode cX10_teacher 33 = .ok (.ifCond .ne 29, 3) := by decide +kernel
theorem dX10_teacher_36 : decode cX10_teacher 36 = .ok (.aload_n 0, 1) := by decide +kernel
theorem dX10_teacher_37 : decode cX10_teacher 37 = .ok (.getfield 18, 3) := by decide +kernel
theorem dX10_teacher_40 : decode cX10_teacher 40 = .ok (.aload_n 0, 1) := by decide +kernel
theorem dX10_teacher_41 : decode cX10_teacher 41 = .ok (.getfield 11, 3) := by decide +kernel
theorem dX10_teacher_44 : decode cX10_teacher 44 = .ok (.iload_n 3, 1) := by decide +kernel
theorem dX10_teacher_45 : decode cX10_teacher 45 = .ok (.aaload, 1) := by decide +kernel
theorem dX10_teacher_46 : decode cX10_teacher 46 = .ok (.getfield 76, 3) := by decide +kernel
theorem dX10_teacher_49 : decode cX10_teacher 49 = .ok (.aload_n 0, 1) := by decide +kernel
theorem dX10_teacher_50 : decode cX10_teacher 50 = .ok (.getfield 60, 3) := by decide +kernel
theorem dX10_teacher_53 : decode cX10_teacher 53 = .ok (.invokevirtual 205, 3) := by decide +kernel
theorem dX10_teacher_56 : decode cX10_teacher 56 = .ok (.ifCond .ne 6, 3) := by decide +kernel
theorem dX10_teacher_59 : decode cX10_teacher 59 = .ok (.iconst 5, 1) := by decide +kernel
theorem dX10_teacher_60 : decode cX10_teacher 60 = .ok (.istore 5, 2) := by decide +kernel
theorem dX10_teacher_62 : decode cX10_teacher 62 = .ok (.iload 5, 2) := by decide +kernel
theorem dX10_teacher_64 : decode cX10_teacher 64 = .ok (.ifCond .eq 10, 3) := by decide +kernel
theorem dX10_teacher_67 : decode cX10_teacher 67 = .ok (.aload_n 0, 1) := by decide +kernel
theorem dX10_teacher_68 : decode cX10_teacher 68 = .ok (.iload 5, 2) := by decide +kernel
theorem dX10_teacher_70 : decode cX10_teacher 70 = .ok (.invokevirtual 73, 3) := by decide +kernel
theorem dX10_teacher_73 : decode cX10_teacher 73 = .ok (.ireturn, 1) := by decide +kernel
theorem dX10_teacher_74 : decode cX10_teacher 74 = .ok (.aload_n 0, 1) := by decide +kernel
theorem dX10_teacher_75 : decode cX10_teacher 75 = .ok (.getfield 11, 3) := by decide +kernel
theorem dX10_teacher_78 : decode cX10_teacher 78 = .ok (.iload_n 1, 1) := by decide +kernel
theorem dX10_teacher_79 : decode cX10_teacher 79 = .ok (.aaload, 1) := by decide +kernel
theorem dX10_teacher_80 : decode cX10_teacher 80 = .ok (.iload_n 2, 1) := by decide +kernel
theorem dX10_teacher_81 : decode cX10_teacher 81 = .ok (.aload_n 0, 1) := by decide +kernel
theorem dX10_teacher_82 : decode cX10_teacher 82 = .ok (.getfield 60, 3) := by decide +kernel
theorem dX10_teacher_85 : decode cX10_teacher 85 = .ok (.iload 4, 2) := by decide +kernel
theorem dX10_teacher_87 : decode cX10_teacher 87 = .ok (.invokevirtual 230, 3) := by decide +kernel
theorem dX10_teacher_90 : decode cX10_teacher 90 = .ok (.aload_n 0, 1) := by decide +kernel
theorem dX10_teacher_91 : decode cX10_teacher 91 = .ok (.iconst 0, 1) := by decide +kernel
theorem dX10_teacher_92 : decode cX10_teacher 92 = .ok (.invokevirtual 86, 3) := by decide +kernel
theorem dX10_teacher_95 : decode cX10_teacher 95 = .ok (.ireturn, 1) := by decide +kernel
def f_School_teacher_b62 (x1 : Int32) (x2 : Int32) (x4 : Int32) (x5 : Int32) (Q : Int32 → MI → MJ → Prop) (I : MI) (J : MJ) : Prop :=
  (if x5 = 0 then vp_in x1 16 ∧ f_Place_layTeacher (1 + 64 + 7 * x1.toNatClampNeg) x2 60 x4 I J (fun I87 J87 => f_School_done (0 : Int32) I87 J87 (fun r92 I92 J92 => Q r92 I92 J92)) else f_School_refuse x5 I J (fun r70 I70 J70 => Q r70 I70 J70))
def f_School_teacher_b31 (x1 : Int32) (x2 : Int32) (x3 : Int32) (x4 : Int32) (x5 : Int32) (Q : Int32 → MI → MJ → Prop) (I : MI) (J : MJ) : Prop :=
  (if x5 = 0 then vp_in x3 16 ∧ f_Chart_makeLeast (1 + 64 + 7 * x3.toNatClampNeg + 1) 60 I J (fun r53 I53 J53 => (if r53 = 0 then f_School_teacher_b62 x1 x2 x4 5 Q I53 J53 else f_School_teacher_b62 x1 x2 x4 x5 Q I53 J53)) else f_School_teacher_b62 x1 x2 x4 x5 Q I J)
def f_School_teacher_b18 (x1 : Int32) (x2 : Int32) (x3 : Int32) (x4 : Int32) (x5 : Int32) (Q : Int32 → MI → MJ → Prop) (I : MI) (J : MJ) : Prop :=
  (if x5 = 0 then f_School_teachingFault x2 x4 I J (fun r26 I26 J26 => f_School_teacher_b31 x1 x2 x3 x4 r26 Q I26 J26) else f_School_teacher_b31 x1 x2 x3 x4 x5 Q I J)
def f_School_teacher (x1 : Int32) (x2 : Int32) (x3 : Int32) (x4 : Int32) (I : MI) (J : MJ) (Q : Int32 → MI → MJ → Prop) : Prop :=
  f_School_placeFault x1 I J (fun r1 I1 J1 => (if r1 = 0 then f_School_machineFault x3 I1 J1 (fun r13 I13 J13 => f_School_teacher_b18 x1 x2 x3 x4 r13 Q I13 J13) else f_School_teacher_b18 x1 x2 x3 x4 r1 Q I1 J1))
set_option maxRecDepth 100000 in
set_option maxHeartbeats 4000000 in
theorem w_School_teacher_b62 {Γ : Ctx} {Q : Int32 → MI → MJ → Prop} {x1 : Int32} {x2 : Int32} {x4 : Int32} {x5 : Int32}  (X : Cx Γ cX10_teacher 6 RX10 6) (Y : Rt Γ (Pi Q) (Option.some Jvm.ClassFile.FieldType.int))   {I : MI} {J : MJ} (h : f_School_teacher_b62 x1 x2 x4 x5 Q I J) : Wp Γ 6 62 [(0, .ref (ad Γ 0)), (1, .int x1), (2, .int x2), (4, .int x4), (5, .int x5)] [] I J := by
  unfold f_School_teacher_b62 at h
  refine wp_iload X dX10_teacher_62 4 rfl ?_
  refine wp_if_eq (tgt := 74) X dX10_teacher_64 (by decide) (fun hc => ?_) (fun hc => ?_)
  · have h := ite_t h hc
    refine wp_aload_n X dX10_teacher_74 0 rfl ?_
    refine gf_X10_11 (o' := 1) X sh_0 rfl dX10_teacher_75 ?_
    refine wp_iload_n X dX10_teacher_78 1 rfl ?_
    obtain ⟨hb79, h⟩ := h
    refine wp_aald X sh_1 hb79 dX10_teacher_79 ?_
    refine wp_iload_n X dX10_teacher_80 2 rfl ?_
    refine wp_aload_n X dX10_teacher_81 0 rfl ?_
    refine gf_X10_60 (o' := 60) X sh_0 rfl dX10_teacher_82 ?_
    refine wp_iload X dX10_teacher_85 3 rfl ?_
    refine cv_Place_layTeacher X dX10_teacher_87 ml_X10_230 (okP_at hb79) okM_60 h (Nat.le_of_ble_eq_true rfl) (by decide) (fun I87 J87 h => ?_)
    refine wp_aload_n X dX10_teacher_90 0 rfl ?_
    refine wp_iconst X dX10_teacher_91 ic_0 ?_
    refine cv_School_done X dX10_teacher_92 ml_X10_86  h (Nat.le_of_ble_eq_true rfl) (by decide) (fun r92 I92 J92 h => ?_)
    exact wp_iret X Y dX10_teacher_95 ⟨_, rfl, h⟩
  · have h := ite_f h hc
    refine wp_aload_n X dX10_teacher_67 0 rfl ?_
    refine wp_iload X dX10_teacher_68 4 rfl ?_
    refine cv_School_refuse X dX10_teacher_70 ml_X10_73  h (Nat.le_of_ble_eq_true rfl) (by decide) (fun r70 I70 J70 h => ?_)
    exact wp_iret X Y dX10_teacher_73 ⟨_, rfl, h⟩

set_option maxRecDepth 100000 in
set_option maxHeartbeats 4000000 in
theorem w_School_teacher_b31 {Γ : Ctx} {Q : Int32 → MI → MJ → Prop} {x1 : Int32} {x2 : Int32} {x3 : Int32} {x4 : Int32} {x5 : Int32}  (X : Cx Γ cX10_teacher 6 RX10 6) (Y : Rt Γ (Pi Q) (Option.some Jvm.ClassFile.FieldType.int))   {I : MI} {J : MJ} (h : f_School_teacher_b31 x1 x2 x3 x4 x5 Q I J) : Wp Γ 6 31 [(0, .ref (ad Γ 0)), (1, .int x1), (2, .int x2), (3, .int x3), (4, .int x4), (5, .int x5)] [] I J := by
  unfold f_School_teacher_b31 at h
  refine wp_iload X dX10_teacher_31 5 rfl ?_
  refine wp_if_ne (tgt := 62) X dX10_teacher_33 (by decide) (fun hc => ?_) (fun hc => ?_)
  · have h := ite_f h hc
    refine wp_sub X [0, 1, 2, 4, 5] rfl ?_
    exact w_School_teacher_b62 X Y  h
  · have h := ite_t h hc
    refine wp_aload_n X dX10_teacher_36 0 rfl ?_
    refine gf_X10_18 (o' := 2) X sh_0 rfl dX10_teacher_37 ?_
    refine wp_aload_n X dX10_teacher_40 0 rfl ?_
    refine gf_X10_11 (o' := 1) X sh_0 rfl dX10_teacher_41 ?_
    refine wp_iload_n X dX10_teacher_44 3 rfl ?_
    obtain ⟨hb45, h⟩ := h
    refine wp_aald X sh_1 hb45 dX10_teacher_45 ?_
    refine gf_X10_76 (o' := 1 + 64 + 7 * x3.toNatClampNeg + 1) X ((okP_at hb45).1) rfl dX10_teacher_46 ?_
    refine wp_aload_n X dX10_teacher_49 0 rfl ?_
    refine gf_X10_60 (o' := 60) X sh_0 rfl dX10_teacher_50 ?_
    refine cv_Chart_makeLeast X dX10_teacher_53 ml_X10_205 ((okP_at hb45).2.1) okM_60 h (Nat.le_of_ble_eq_true rfl) (by decide) (fun r53 I53 J53 h => ?_)
    refine wp_if_ne (tgt := 62) X dX10_teacher_56 (by decide) (fun hc => ?_) (fun hc => ?_)
    · have h := ite_f h hc
      refine wp_sub X [0, 1, 2, 4, 5] rfl ?_
      exact w_School_teacher_b62 X Y  h
    · have h := ite_t h hc
      refine wp_iconst X dX10_teacher_59 ic_5 ?_
      refine wp_istore (L' := [(5, .int 5), (0, .ref (ad Γ 0)), (1, .int x1), (2, .int x2), (3, .int x3), (4, .int x4)]) X dX10_teacher_60 (by decide) rfl ?_
      refine wp_sub X [1, 2, 3, 5, 0] rfl ?_
      exact w_School_teacher_b62 X Y  h

set_option maxRecDepth 100000 in
set_option maxHeartbeats 4000000 in
theorem w_School_teacher_b18 {Γ : Ctx} {Q : Int32 → MI → MJ → Prop} {x1 : Int32} {x2 : Int32} {x3 : Int32} {x4 : Int32} {x5 : Int32}  (X : Cx Γ cX10_teacher 6 RX10 6) (Y : Rt Γ (Pi Q) (Option.some Jvm.ClassFile.FieldType.int))   {I : MI} {J : MJ} (h : f_School_teacher_b18 x1 x2 x3 x4 x5 Q I J) : Wp Γ 6 18 [(0, .ref (ad Γ 0)), (1, .int x1), (2, .int x2), (3, .int x3), (4, .int x4), (5, .int x5)] [] I J := by
  unfold f_School_teacher_b18 at h
  refine wp_iload X dX10_teacher_18 5 rfl ?_
  refine wp_if_ne (tgt := 31) X dX10_teacher_20 (by decide) (fun hc => ?_) (fun hc => ?_)
  · have h := ite_f h hc
    exact w_School_teacher_b31 X Y  h
  · have h := ite_t h hc
    refine wp_iload_n X dX10_teacher_23 2 rfl ?_
    refine wp_iload X dX10_teacher_24 4 rfl ?_
    refine cs_School_teachingFault X dX10_teacher_26 ml_X10_227  h (Nat.le_of_ble_eq_true rfl) (by decide) (fun r26 I26 J26 h => ?_)
    refine wp_istore (L' := [(5, .int r26), (0, .ref (ad Γ 0)), (1, .int x1), (2, .int x2), (3, .int x3), (4, .int x4)]) X dX10_teacher_29 (by decide) rfl ?_
    refine wp_sub X [1, 2, 3, 4, 5, 0] rfl ?_
    exact w_School_teacher_b31 X Y  h

set_option maxRecDepth 100000 in
set_option maxHeartbeats 4000000 in
theorem w_School_teacher_b0 {Γ : Ctx} {Q : Int32 → MI → MJ → Prop} {x1 : Int32} {x2 : Int32} {x3 : Int32} {x4 : Int32}  (X : Cx Γ cX10_teacher 6 RX10 6) (Y : Rt Γ (Pi Q) (Option.some Jvm.ClassFile.FieldType.int))   {I : MI} {J : MJ} (h : f_School_teacher x1 x2 x3 x4 I J Q) : Wp Γ 6 0 [(0, .ref (ad Γ 0)), (1, .int x1), (2, .int x2), (3, .int x3), (4, .int x4)] [] I J := by
  unfold f_School_teacher at h
  refine wp_iload_n X dX10_teacher_0 1 rfl ?_
  refine cs_School_placeFault X dX10_teacher_1 ml_X10_69  h (Nat.le_of_ble_eq_true rfl) (by decide) (fun r1 I1 J1 h => ?_)
  refine wp_istore (L' := [(5, .int r1), (0, .ref (ad Γ 0)), (1, .int x1), (2, .int x2), (3, .int x3), (4, .int x4)]) X dX10_teacher_4 (by decide) rfl ?_
  refine wp_iload X dX10_teacher_6 0 rfl ?_
  refine wp_if_ne (tgt := 18) X dX10_teacher_8 (by decide) (fun hc => ?_) (fun hc => ?_)
  · have h := ite_f h hc
    refine wp_sub X [1, 2, 3, 4, 5, 0] rfl ?_
    exact w_School_teacher_b18 X Y  h
  · have h := ite_t h hc
    refine wp_aload_n X dX10_teacher_11 1 rfl ?_
    refine wp_iload_n X dX10_teacher_12 4 rfl ?_
    refine cv_School_machineFault X dX10_teacher_13 ml_X10_100  h (Nat.le_of_ble_eq_true rfl) (by decide) (fun r13 I13 J13 h => ?_)
    refine wp_istore (L' := [(5, .int r13), (0, .ref (ad Γ 0)), (1, .int x1), (2, .int x2), (3, .int x3), (4, .int x4)]) X dX10_teacher_16 (by decide) rfl ?_
    refine wp_sub X [1, 2, 3, 4, 5, 0] rfl ?_
    exact w_School_teacher_b18 X Y  h

theorem c_School_teacher {l : Launch} {g : GE} (hg : Inj g) {I : MI} {J : MJ} {Q : Int32 → MI → MJ → Prop} {x1 : Int32} {x2 : Int32} {x3 : Int32} {x4 : Int32}  (h : f_School_teacher x1 x2 x3 x4 I J Q) : Cm l g yX10_teacher cX10_teacher 6 (Option.some Jvm.ClassFile.FieldType.int) 6 [.ref (g.1 0), .int x1, .int x2, .int x3, .int x4] I J (Pi Q) := by
  refine Cm.of (As := fun ad => [.ref (ad 0), .int x1, .int x2, .int x3, .int x4]) hg pn_X10 (Nat.le_of_ble_eq_true rfl) ?_
  exact (fun Γ _ _ X Y => w_School_teacher_b0 X Y  h)
theorem cv_School_teacher {Γ : Ctx} {cc : ByteArray} {nL d pc index : Nat} {own : String} {L : List (Nat × Value)} {rest : List Value} {I : MI} {J : MJ} {Q : Int32 → MI → MJ → Prop} {x1 : Int32} {x2 : Int32} {x3 : Int32} {x4 : Int32} (X : Cx Γ cc nL own d) (hd : decode cc pc = .ok (.invokevirtual index, 3)) (hlink : Cond.methodLink own index yX10_teacher ∈ TT)  (h : f_School_teacher x1 x2 x3 x4 I J Q) (hrest : (rest.map fun v => v.category).sum ≤ 8) (hdd : 6 + 1 ≤ d) (kk : ∀ (r : Int32) (I' : MI) (J' : MJ), Q r I' J' → Wp Γ nL (pc + 3) L (.int r :: rest) I' J') : Wp Γ nL pc L (.int x4 :: .int x3 :: .int x2 :: .int x1 :: .ref (ad Γ 0) :: rest) I J :=
  wp_callV (As := [.int x1, .int x2, .int x3, .int x4]) (rest := rest) (T := TX10) (N := 9) X hd hlink mv_X10_teacher sh_0 (by decide) rfl (c_School_teacher X.inj  h) rfl rfl hrest hdd (fun v I' J' hv => by obtain ⟨r, rfl, hq⟩ := hv; exact kk r I' J' hq)
theorem dX4_loseWord_0 : decode cX4_loseWord 0 = .ok (.aload_n 0, 1) := by decide +kernel
theorem dX4_loseWord_1 : decode cX4_loseWord 1 = .ok (.getfield 36, 3) := by decide +kernel
theorem dX4_loseWord_4 : decode cX4_loseWord 4 = .ok (.bipush 8, 2) := by decide +kernel
theorem dX4_loseWord_6 : decode cX4_loseWord 6 = .ok (.if_icmp .ge 23, 3) := by decide +kernel
theorem dX4_loseWord_9 : decode cX4_loseWord 9 = .ok (.aload_n 0, 1) := by decide +kernel
theorem dX4_loseWord_10 : decode cX4_loseWord 10 = .ok (.getfield 22, 3) := by decide +kernel
theorem dX4_loseWord_13 : decode cX4_loseWord 13 = .ok (.aload_n 0, 1) := by decide +kernel
theorem dX4_loseWord_14 : decode cX4_loseWord 14 = .ok (.getfield 36, 3) := by decide +kernel
theorem dX4_loseWord_17 : decode cX4_loseWord 17 = .ok (.lload_n 1, 1) := by decide +kernel
theorem dX4_loseWord_18 : decode cX4_loseWord 18 = .ok (.lastore, 1) := by decide +kernel
theorem dX4_loseWord_19 : decode cX4_loseWord 19 = .ok (.aload_n 0, 1) := by decide +kernel
theorem dX4_loseWord_20 : decode cX4_loseWord 20 = .ok (.dup, 1) := by decide +kernel
theorem dX4_loseWord_21 : decode cX4_loseWord 21 = .ok (.getfield 36, 3) := by decide +kernel
theorem dX4_loseWord_24 : decode cX4_loseWord 24 = .ok (.iconst 1, 1) := by decide +kernel
theorem dX4_loseWord_25 : decode cX4_loseWord 25 = .ok (.iadd, 1) := by decide +kernel
theorem dX4_loseWord_26 : decode cX4_loseWord 26 = .ok (.putfield 36, 3) := by decide +kernel
theorem dX4_loseWord_29 : decode cX4_loseWord 29 = .ok (.aload_n 0, 1) := by decide +kernel
theorem dX4_loseWord_30 : decode cX4_loseWord 30 = .ok (.getfield 36, 3) := by decide +kernel
theorem dX4_loseWord_33 : decode cX4_loseWord 33 = .ok (.ireturn, 1) := by decide +kernel
def f_Place_loseWord (o : Nat) (x1 : Int64) (I : MI) (J : MJ) (Q : Int32 → MI → MJ → Prop) : Prop :=
  (if 8 ≤ (I o 3) then Q (I o 3) I J else vp_in (I o 3) 8 ∧ ∀ J18 : MJ, J18 = sJ J (o + 6) (vp_updL (J (o + 6)) (I o 3).toNatClampNeg x1) → ∀ I26 : MI, I26 = sI I o (upd (I o) 3 ((I o 3) + 1)) → Q (I26 o 3) I26 J18)
set_option maxRecDepth 100000 in
set_option maxHeartbeats 4000000 in
theorem w_Place_loseWord_b0 {Γ : Ctx} {Q : Int32 → MI → MJ → Prop} {o : Nat} {x1 : Int64}  (X : Cx Γ cX4_loseWord 3 RX4 0) (Y : Rt Γ (Pi Q) (Option.some Jvm.ClassFile.FieldType.int)) (ho : okP o)  {I : MI} {J : MJ} (h : f_Place_loseWord o x1 I J Q) : Wp Γ 3 0 [(0, .ref (ad Γ o)), (1, .long x1)] [] I J := by
  unfold f_Place_loseWord at h
  refine wp_aload_n X dX4_loseWord_0 0 rfl ?_
  refine gf_X4_36 X ho.1 dX4_loseWord_1 ?_
  refine wp_bipush X dX4_loseWord_4 bi_8 ?_
  refine wp_icmp_ge (tgt := 29) X dX4_loseWord_6 (by decide) (fun hc => ?_) (fun hc => ?_)
  · have h := ite_t h hc
    refine wp_aload_n X dX4_loseWord_29 0 rfl ?_
    refine gf_X4_36 X ho.1 dX4_loseWord_30 ?_
    exact wp_iret X Y dX4_loseWord_33 ⟨_, rfl, h⟩
  · have h := ite_f h hc
    refine wp_aload_n X dX4_loseWord_9 0 rfl ?_
    refine gf_X4_22 (o' := o + 6) X ho.1 rfl dX4_loseWord_10 ?_
    refine wp_aload_n X dX4_loseWord_13 0 rfl ?_
    refine gf_X4_36 X ho.1 dX4_loseWord_14 ?_
    refine wp_lload_n X dX4_loseWord_17 1 rfl ?_
    obtain ⟨hb18, h⟩ := h
    refine wp_last X ho.2.2 hb18 dX4_loseWord_18 ?_
    refine wp_memJ (fun J18 eJ18 => ?_)
    have h := h J18 eJ18
    refine wp_aload_n X dX4_loseWord_19 0 rfl ?_
    refine wp_dup X dX4_loseWord_20 rfl ?_
    refine gf_X4_36 X ho.1 dX4_loseWord_21 ?_
    refine wp_iconst X dX4_loseWord_24 ic_1 ?_
    refine wp_iadd X dX4_loseWord_25 ?_
    refine pf_X4_36 X ho.1 dX4_loseWord_26 (fun I26 eI26 => ?_)
    have h := h I26 eI26
    refine wp_aload_n X dX4_loseWord_29 0 rfl ?_
    refine gf_X4_36 X ho.1 dX4_loseWord_30 ?_
    exact wp_iret X Y dX4_loseWord_33 ⟨_, rfl, h⟩

theorem c_Place_loseWord {l : Launch} {g : GE} (hg : Inj g) {I : MI} {J : MJ} {Q : Int32 → MI → MJ → Prop} {o : Nat} {x1 : Int64} (ho : okP o) (h : f_Place_loseWord o x1 I J Q) : Cm l g yX4_loseWord cX4_loseWord 3 (Option.some Jvm.ClassFile.FieldType.int) 0 [.ref (g.1 o), .long x1] I J (Pi Q) := by
  refine Cm.of (As := fun ad => [.ref (ad o), .long x1]) hg pn_X4 (Nat.le_of_ble_eq_true rfl) ?_
  exact (fun Γ _ _ X Y => w_Place_loseWord_b0 X Y ho h)
theorem cv_Place_loseWord {Γ : Ctx} {cc : ByteArray} {nL d pc index : Nat} {own : String} {L : List (Nat × Value)} {rest : List Value} {I : MI} {J : MJ} {Q : Int32 → MI → MJ → Prop} {o : Nat} {x1 : Int64} (X : Cx Γ cc nL own d) (hd : decode cc pc = .ok (.invokevirtual index, 3)) (hlink : Cond.methodLink own index yX4_loseWord ∈ TT) (ho : okP o) (h : f_Place_loseWord o x1 I J Q) (hrest : (rest.map fun v => v.category).sum ≤ 8) (hdd : 0 + 1 ≤ d) (kk : ∀ (r : Int32) (I' : MI) (J' : MJ), Q r I' J' → Wp Γ nL (pc + 3) L (.int r :: rest) I' J') : Wp Γ nL pc L (.long x1 :: .ref (ad Γ o) :: rest) I J :=
  wp_callV (As := [.long x1]) (rest := rest) (T := TX4) (N := 7) X hd hlink mv_X4_loseWord ho.1 (by decide) rfl (c_Place_loseWord X.inj ho h) rfl rfl hrest hdd (fun v I' J' hv => by obtain ⟨r, rfl, hq⟩ := hv; exact kk r I' J' hq)
theorem dX10_forget_0 : decode cX10_forget 0 = .ok (.aload_n 0, 1) := by decide +kernel
theorem dX10_forget_1 : decode cX10_forget 1 = .ok (.iload_n 1, 1) := by decide +kernel
theorem dX10_forget_2 : decode cX10_forget 2 = .ok (.invokevirtual 147, 3) := by decide +kernel
theorem dX10_forget_5 : decode cX10_forget 5 = .ok (.istore 4, 2) := by decide +kernel
theorem dX10_forget_7 : decode cX10_forget 7 = .ok (.iload 4, 2) := by decide +kernel
theorem dX10_forget_9 : decode cX10_forget 9 = .ok (.ifCond .ne 20, 3) := by decide +kernel
theorem dX10_forget_12 : decode cX10_forget 12 = .ok (.aload_n 0, 1) := by decide +kernel
theorem dX10_forget_13 : decode cX10_forget 13 = .ok (.getfield 11, 3) := by decide +kernel
theorem dX10_forget_16 : decode cX10_forget 16 = .ok (.iload_n 1, 1) := by decide +kernel
theorem dX10_forget_17 : decode cX10_forget 17 = .ok (.aaload, 1) := by decide +kernel
theorem dX10_forget_18 : decode cX10_forget 18 = .ok (.getfield 83, 3) := by decide +kernel
theorem dX10_forget_21 : decode cX10_forget 21 = .ok (.bipush 6, 2) := by decide +kernel
theorem dX10_forget_23 : decode cX10_forget 23 = .ok (.if_icmp .eq 6, 3) := by decide +kernel
theorem dX10_forget_26 : decode cX10_forget 26 = .ok (.iconst 4, 1) := by decide +kernel
theorem dX10_forget_27 : decode cX10_forget 27 = .ok (.istore 4, 2) := by decide +kernel
theorem dX10_forget_29 : decode cX10_forget 29 = .ok (.iload 4, 2) := by decide +kernel
theorem dX10_forget_31 : decode cX10_forget 31 = .ok (.ifCond .ne 13, 3) := by decide +kernel
theorem dX10_forget_34 : decode cX10_forget 34 = .ok (.lload_n 2, 1) := by decide +kernel
theorem dX10_forget_35 : decode cX10_forget 35 = .ok (.invokestatic 170, 3) := by decide +kernel
theorem dX10_forget_38 : decode cX10_forget 38 = .ok (.ifCond .ne 6, 3) := by decide +kernel
theorem dX10_forget_41 : decode cX10_forget 41 = .ok (.iconst 2, 1) := by decide +kernel
theorem dX10_forget_42 : decode cX10_forget 42 = .ok (.istore 4, 2) := by decide +kernel
theorem dX10_forget_44 : decode cX10_forget 44 = .ok (.iload 4, 2) := by decide +kernel
theorem dX10_forget_46 : decode cX10_forget 46 = .ok (.ifCond .ne 20, 3) := by decide +kernel
theorem dX10_forget_49 : decode cX10_forget 49 = .ok (.aload_n 0, 1) := by decide +kernel
theorem dX10_forget_50 : decode cX10_forget 50 = .ok (.getfield 11, 3) := by decide +kernel
theorem dX10_forget_53 : decode cX10_forget 53 = .ok (.iload_n 1, 1) := by decide +kernel
theorem dX10_forget_54 : decode cX10_forget 54 = .ok (.aaload, 1) := by decide +kernel
theorem dX10_forget_55 : decode cX10_forget 55 = .ok (.lload_n 2, 1) := by decide +kernel
theorem dX10_forget_56 : decode cX10_forget 56 = .ok (.invokevirtual 234, 3) := by decide +kernel
theorem dX10_forget_59 : decode cX10_forget 59 = .ok (.ifCond .eq 7, 3) := by decide +kernel
theorem dX10_forget_62 : decode cX10_forget 62 = .ok (.bipush 6, 2) := by decide +kernel
theorem dX10_forget_64 : decode cX10_forget 64 = .ok (.istore 4, 2) := by decide +kernel
theorem dX10_forget_66 : decode cX10_forget 66 = .ok (.iload 4, 2) := by decide +kernel
theorem dX10_forget_68 : decode cX10_forget 68 = .ok (.ifCond .ne 20, 3) := by decide +kernel
theorem dX10_forget_71 : decode cX10_forget 71 = .ok (.aload_n 0, 1) := by decide +kernel
theorem dX10_forget_72 : decode cX10_forget 72 = .ok (.getfield 11, 3) := by decide +kernel
theorem dX10_forget_75 : decode cX10_forget 75 = .ok (.iload_n 1, 1) := by decide +kernel
theorem dX10_forget_76 : decode cX10_forget 76 = .ok (.aaload, 1) := by decide +kernel
theorem dX10_forget_77 : decode cX10_forget 77 = .ok (.getfield 159, 3) := by decide +kernel
theorem dX10_forget_80 : decode cX10_forget 80 = .ok (.bipush 8, 2) := by decide +kernel
theorem dX10_forget_82 : decode cX10_forget 82 = .ok (.if_icmp .lt 6, 3) := by decide +kernel
theorem dX10_forget_85 : decode cX10_forget 85 = .ok (.iconst 5, 1) := by decide +kernel
theorem dX10_forget_86 : decode cX10_forget 86 = .ok (.istore 4, 2) := by decide +kernel
theorem dX10_forget_88 : decode cX10_forget 88 = .ok (.iload 4, 2) := by decide +kernel
theorem dX10_forget_90 : decode cX10_forget 90 = .ok (.ifCond .eq 10, 3) := by decide +kernel
theorem dX10_forget_93 : decode cX10_forget 93 = .ok (.aload_n 0, 1) := by decide +kernel
theorem dX10_forget_94 : decode cX10_forget 94 = .ok (.iload 4, 2) := by decide +kernel
theorem dX10_forget_96 : decode cX10_forget 96 = .ok (.invokevirtual 73, 3) := by decide +kernel
theorem dX10_forget_99 : decode cX10_forget 99 = .ok (.ireturn, 1) := by decide +kernel
theorem dX10_forget_100 : decode cX10_forget 100 = .ok (.aload_n 0, 1) := by decide +kernel
theorem dX10_forget_101 : decode cX10_forget 101 = .ok (.aload_n 0, 1) := by decide +kernel
theorem dX10_forget_102 : decode cX10_forget 102 = .ok (.getfield 11, 3) := by decide +kernel
theorem dX10_forget_105 : decode cX10_forget 105 = .ok (.iload_n 1, 1) := by decide +kernel
theorem dX10_forget_106 : decode cX10_forget 106 = .ok (.aaload, 1) := by decide +kernel
theorem dX10_forget_107 : decode cX10_forget 107 = .ok (.lload_n 2, 1) := by decide +kernel
theorem dX10_forget_108 : decode cX10_forget 108 = .ok (.invokevirtual 237, 3) := by decide +kernel
theorem dX10_forget_111 : decode cX10_forget 111 = .ok (.invokevirtual 86, 3) := by decide +kernel
theorem dX10_forget_114 : decode cX10_forget 114 = .ok (.ireturn, 1) := by decide +kernel
def f_School_forget_b88 (x1 : Int32) (x2 : Int64) (x4 : Int32) (Q : Int32 → MI → MJ → Prop) (I : MI) (J : MJ) : Prop :=
  (if x4 = 0 then vp_in x1 16 ∧ f_Place_loseWord (1 + 64 + 7 * x1.toNatClampNeg) x2 I J (fun r108 I108 J108 => f_School_done r108 I108 J108 (fun r111 I111 J111 => Q r111 I111 J111)) else f_School_refuse x4 I J (fun r96 I96 J96 => Q r96 I96 J96))
def f_School_forget_b66 (x1 : Int32) (x2 : Int64) (x4 : Int32) (Q : Int32 → MI → MJ → Prop) (I : MI) (J : MJ) : Prop :=
  (if x4 = 0 then vp_in x1 16 ∧ (if (I (1 + 64 + 7 * x1.toNatClampNeg) 3) < 8 then f_School_forget_b88 x1 x2 x4 Q I J else f_School_forget_b88 x1 x2 5 Q I J) else f_School_forget_b88 x1 x2 x4 Q I J)
def f_School_forget_b44 (x1 : Int32) (x2 : Int64) (x4 : Int32) (Q : Int32 → MI → MJ → Prop) (I : MI) (J : MJ) : Prop :=
  (if x4 = 0 then vp_in x1 16 ∧ f_Place_hasForgotten (1 + 64 + 7 * x1.toNatClampNeg) x2 I J (fun r56 I56 J56 => (if r56 = 0 then f_School_forget_b66 x1 x2 x4 Q I56 J56 else f_School_forget_b66 x1 x2 6 Q I56 J56)) else f_School_forget_b66 x1 x2 x4 Q I J)
def f_School_forget_b29 (x1 : Int32) (x2 : Int64) (x4 : Int32) (Q : Int32 → MI → MJ → Prop) (I : MI) (J : MJ) : Prop :=
  (if x4 = 0 then f_Words_isWord x2 I J (fun r35 I35 J35 => (if r35 = 0 then f_School_forget_b44 x1 x2 2 Q I35 J35 else f_School_forget_b44 x1 x2 x4 Q I35 J35)) else f_School_forget_b44 x1 x2 x4 Q I J)
def f_School_forget (x1 : Int32) (x2 : Int64) (I : MI) (J : MJ) (Q : Int32 → MI → MJ → Prop) : Prop :=
  f_School_thingFault x1 I J (fun r2 I2 J2 => (if r2 = 0 then vp_in x1 16 ∧ (if (I2 (1 + 64 + 7 * x1.toNatClampNeg) 0) = 6 then f_School_forget_b29 x1 x2 r2 Q I2 J2 else f_School_forget_b29 x1 x2 4 Q I2 J2) else f_School_forget_b29 x1 x2 r2 Q I2 J2))
set_option maxRecDepth 100000 in
set_option maxHeartbeats 4000000 in
theorem w_School_forget_b88 {Γ : Ctx} {Q : Int32 → MI → MJ → Prop} {x1 : Int32} {x2 : Int64} {x4 : Int32}  (X : Cx Γ cX10_forget 5 RX10 2) (Y : Rt Γ (Pi Q) (Option.some Jvm.ClassFile.FieldType.int))   {I : MI} {J : MJ} (h : f_School_forget_b88 x1 x2 x4 Q I J) : Wp Γ 5 88 [(0, .ref (ad Γ 0)), (1, .int x1), (2, .long x2), (4, .int x4)] [] I J := by
  unfold f_School_forget_b88 at h
  refine wp_iload X dX10_forget_88 3 rfl ?_
  refine wp_if_eq (tgt := 100) X dX10_forget_90 (by decide) (fun hc => ?_) (fun hc => ?_)
  · have h := ite_t h hc
    refine wp_aload_n X dX10_forget_100 0 rfl ?_
    refine wp_aload_n X dX10_forget_101 0 rfl ?_
    refine gf_X10_11 (o' := 1) X sh_0 rfl dX10_forget_102 ?_
    refine wp_iload_n X dX10_forget_105 1 rfl ?_
    obtain ⟨hb106, h⟩ := h
    refine wp_aald X sh_1 hb106 dX10_forget_106 ?_
    refine wp_lload_n X dX10_forget_107 2 rfl ?_
    refine cv_Place_loseWord X dX10_forget_108 ml_X10_237 (okP_at hb106) h (Nat.le_of_ble_eq_true rfl) (by decide) (fun r108 I108 J108 h => ?_)
    refine cv_School_done X dX10_forget_111 ml_X10_86  h (Nat.le_of_ble_eq_true rfl) (by decide) (fun r111 I111 J111 h => ?_)
    exact wp_iret X Y dX10_forget_114 ⟨_, rfl, h⟩
  · have h := ite_f h hc
    refine wp_aload_n X dX10_forget_93 0 rfl ?_
    refine wp_iload X dX10_forget_94 3 rfl ?_
    refine cv_School_refuse X dX10_forget_96 ml_X10_73  h (Nat.le_of_ble_eq_true rfl) (by decide) (fun r96 I96 J96 h => ?_)
    exact wp_iret X Y dX10_forget_99 ⟨_, rfl, h⟩

set_option maxRecDepth 100000 in
set_option maxHeartbeats 4000000 in
theorem w_School_forget_b66 {Γ : Ctx} {Q : Int32 → MI → MJ → Prop} {x1 : Int32} {x2 : Int64} {x4 : Int32}  (X : Cx Γ cX10_forget 5 RX10 2) (Y : Rt Γ (Pi Q) (Option.some Jvm.ClassFile.FieldType.int))   {I : MI} {J : MJ} (h : f_School_forget_b66 x1 x2 x4 Q I J) : Wp Γ 5 66 [(0, .ref (ad Γ 0)), (1, .int x1), (2, .long x2), (4, .int x4)] [] I J := by
  unfold f_School_forget_b66 at h
  refine wp_iload X dX10_forget_66 3 rfl ?_
  refine wp_if_ne (tgt := 88) X dX10_forget_68 (by decide) (fun hc => ?_) (fun hc => ?_)
  · have h := ite_f h hc
    exact w_School_forget_b88 X Y  h
  · have h := ite_t h hc
    refine wp_aload_n X dX10_forget_71 0 rfl ?_
    refine gf_X10_11 (o' := 1) X sh_0 rfl dX10_forget_72 ?_
    refine wp_iload_n X dX10_forget_75 1 rfl ?_
    obtain ⟨hb76, h⟩ := h
    refine wp_aald X sh_1 hb76 dX10_forget_76 ?_
    refine gf_X10_159 X ((okP_at hb76).1) dX10_forget_77 ?_
    refine wp_bipush X dX10_forget_80 bi_8 ?_
    refine wp_icmp_lt (tgt := 88) X dX10_forget_82 (by decide) (fun hc => ?_) (fun hc => ?_)
    · have h := ite_t h hc
      exact w_School_forget_b88 X Y  h
    · have h := ite_f h hc
      refine wp_iconst X dX10_forget_85 ic_5 ?_
      refine wp_istore (L' := [(4, .int 5), (0, .ref (ad Γ 0)), (1, .int x1), (2, .long x2)]) X dX10_forget_86 (by decide) rfl ?_
      refine wp_sub X [1, 2, 3, 0] rfl ?_
      exact w_School_forget_b88 X Y  h

set_option maxRecDepth 100000 in
set_option maxHeartbeats 4000000 in
theorem w_School_forget_b44 {Γ : Ctx} {Q : Int32 → MI → MJ → Prop} {x1 : Int32} {x2 : Int64} {x4 : Int32}  (X : Cx Γ cX10_forget 5 RX10 2) (Y : Rt Γ (Pi Q) (Option.some Jvm.ClassFile.FieldType.int))   {I : MI} {J : MJ} (h : f_School_forget_b44 x1 x2 x4 Q I J) : Wp Γ 5 44 [(0, .ref (ad Γ 0)), (1, .int x1), (2, .long x2), (4, .int x4)] [] I J := by
  unfold f_School_forget_b44 at h
  refine wp_iload X dX10_forget_44 3 rfl ?_
  refine wp_if_ne (tgt := 66) X dX10_forget_46 (by decide) (fun hc => ?_) (fun hc => ?_)
  · have h := ite_f h hc
    exact w_School_forget_b66 X Y  h
  · have h := ite_t h hc
    refine wp_aload_n X dX10_forget_49 0 rfl ?_
    refine gf_X10_11 (o' := 1) X sh_0 rfl dX10_forget_50 ?_
    refine wp_iload_n X dX10_forget_53 1 rfl ?_
    obtain ⟨hb54, h⟩ := h
    refine wp_aald X sh_1 hb54 dX10_forget_54 ?_
    refine wp_lload_n X dX10_forget_55 2 rfl ?_
    refine cv_Place_hasForgotten X dX10_forget_56 ml_X10_234 (okP_at hb54) h (Nat.le_of_ble_eq_true rfl) (by decide) (fun r56 I56 J56 h => ?_)
    refine wp_if_eq (tgt := 66) X dX10_forget_59 (by decide) (fun hc => ?_) (fun hc => ?_)
    · have h := ite_t h hc
      exact w_School_forget_b66 X Y  h
    · have h := ite_f h hc
      refine wp_bipush X dX10_forget_62 bi_6 ?_
      refine wp_istore (L' := [(4, .int 6), (0, .ref (ad Γ 0)), (1, .int x1), (2, .long x2)]) X dX10_forget_64 (by decide) rfl ?_
      refine wp_sub X [1, 2, 3, 0] rfl ?_
      exact w_School_forget_b66 X Y  h

set_option maxRecDepth 100000 in
set_option maxHeartbeats 4000000 in
theorem w_School_forget_b29 {Γ : Ctx} {Q : Int32 → MI → MJ → Prop} {x1 : Int32} {x2 : Int64} {x4 : Int32}  (X : Cx Γ cX10_forget 5 RX10 2) (Y : Rt Γ (Pi Q) (Option.some Jvm.ClassFile.FieldType.int))   {I : MI} {J : MJ} (h : f_School_forget_b29 x1 x2 x4 Q I J) : Wp Γ 5 29 [(0, .ref (ad Γ 0)), (1, .int x1), (2, .long x2), (4, .int x4)] [] I J := by
  unfold f_School_forget_b29 at h
  refine wp_iload X dX10_forget_29 3 rfl ?_
  refine wp_if_ne (tgt := 44) X dX10_forget_31 (by decide) (fun hc => ?_) (fun hc => ?_)
  · have h := ite_f h hc
    exact w_School_forget_b44 X Y  h
  · have h := ite_t h hc
    refine wp_lload_n X dX10_forget_34 2 rfl ?_
    refine cs_Words_isWord X dX10_forget_35 ml_X10_170  h (Nat.le_of_ble_eq_true rfl) (by decide) (fun r35 I35 J35 h => ?_)
    refine wp_if_ne (tgt := 44) X dX10_forget_38 (by decide) (fun hc => ?_) (fun hc => ?_)
    · have h := ite_f h hc
      exact w_School_forget_b44 X Y  h
    · have h := ite_t h hc
      refine wp_iconst X dX10_forget_41 ic_2 ?_
      refine wp_istore (L' := [(4, .int 2), (0, .ref (ad Γ 0)), (1, .int x1), (2, .long x2)]) X dX10_forget_42 (by decide) rfl ?_
      refine wp_sub X [1, 2, 3, 0] rfl ?_
      exact w_School_forget_b44 X Y  h

set_option maxRecDepth 100000 in
set_option maxHeartbeats 4000000 in
theorem w_School_forget_b0 {Γ : Ctx} {Q : Int32 → MI → MJ → Prop} {x1 : Int32} {x2 : Int64}  (X : Cx Γ cX10_forget 5 RX10 2) (Y : Rt Γ (Pi Q) (Option.some Jvm.ClassFile.FieldType.int))   {I : MI} {J : MJ} (h : f_School_forget x1 x2 I J Q) : Wp Γ 5 0 [(0, .ref (ad Γ 0)), (1, .int x1), (2, .long x2)] [] I J := by
  unfold f_School_forget at h
  refine wp_aload_n X dX10_forget_0 0 rfl ?_
  refine wp_iload_n X dX10_forget_1 1 rfl ?_
  refine cv_School_thingFault X dX10_forget_2 ml_X10_147  h (Nat.le_of_ble_eq_true rfl) (by decide) (fun r2 I2 J2 h => ?_)
  refine wp_istore (L' := [(4, .int r2), (0, .ref (ad Γ 0)), (1, .int x1), (2, .long x2)]) X dX10_forget_5 (by decide) rfl ?_
  refine wp_iload X dX10_forget_7 0 rfl ?_
  refine wp_if_ne (tgt := 29) X dX10_forget_9 (by decide) (fun hc => ?_) (fun hc => ?_)
  · have h := ite_f h hc
    refine wp_sub X [1, 2, 3, 0] rfl ?_
    exact w_School_forget_b29 X Y  h
  · have h := ite_t h hc
    refine wp_aload_n X dX10_forget_12 1 rfl ?_
    refine gf_X10_11 (o' := 1) X sh_0 rfl dX10_forget_13 ?_
    refine wp_iload_n X dX10_forget_16 2 rfl ?_
    obtain ⟨hb17, h⟩ := h
    refine wp_aald X sh_1 hb17 dX10_forget_17 ?_
    refine gf_X10_83 X ((okP_at hb17).1) dX10_forget_18 ?_
    refine wp_bipush X dX10_forget_21 bi_6 ?_
    refine wp_icmp_eq (tgt := 29) X dX10_forget_23 (by decide) (fun hc => ?_) (fun hc => ?_)
    · have h := ite_t h hc
      refine wp_sub X [1, 2, 3, 0] rfl ?_
      exact w_School_forget_b29 X Y  h
    · have h := ite_f h hc
      refine wp_iconst X dX10_forget_26 ic_4 ?_
      refine wp_istore (L' := [(4, .int 4), (0, .ref (ad Γ 0)), (1, .int x1), (2, .long x2)]) X dX10_forget_27 (by decide) rfl ?_
      refine wp_sub X [1, 2, 3, 0] rfl ?_
      exact w_School_forget_b29 X Y  h

theorem c_School_forget {l : Launch} {g : GE} (hg : Inj g) {I : MI} {J : MJ} {Q : Int32 → MI → MJ → Prop} {x1 : Int32} {x2 : Int64}  (h : f_School_forget x1 x2 I J Q) : Cm l g yX10_forget cX10_forget 5 (Option.some Jvm.ClassFile.FieldType.int) 2 [.ref (g.1 0), .int x1, .long x2] I J (Pi Q) := by
  refine Cm.of (As := fun ad => [.ref (ad 0), .int x1, .long x2]) hg pn_X10 (Nat.le_of_ble_eq_true rfl) ?_
  exact (fun Γ _ _ X Y => w_School_forget_b0 X Y  h)
theorem cv_School_forget {Γ : Ctx} {cc : ByteArray} {nL d pc index : Nat} {own : String} {L : List (Nat × Value)} {rest : List Value} {I : MI} {J : MJ} {Q : Int32 → MI → MJ → Prop} {x1 : Int32} {x2 : Int64} (X : Cx Γ cc nL own d) (hd : decode cc pc = .ok (.invokevirtual index, 3)) (hlink : Cond.methodLink own index yX10_forget ∈ TT)  (h : f_School_forget x1 x2 I J Q) (hrest : (rest.map fun v => v.category).sum ≤ 8) (hdd : 2 + 1 ≤ d) (kk : ∀ (r : Int32) (I' : MI) (J' : MJ), Q r I' J' → Wp Γ nL (pc + 3) L (.int r :: rest) I' J') : Wp Γ nL pc L (.long x2 :: .int x1 :: .ref (ad Γ 0) :: rest) I J :=
  wp_callV (As := [.int x1, .long x2]) (rest := rest) (T := TX10) (N := 9) X hd hlink mv_X10_forget sh_0 (by decide) rfl (c_School_forget X.inj  h) rfl rfl hrest hdd (fun v I' J' hv => by obtain ⟨r, rfl, hq⟩ := hv; exact kk r I' J' hq)
theorem dX5_heardFrom_0 : decode cX5_heardFrom 0 = .ok (.aload_n 0, 1) := by decide +kernel
theorem dX5_heardFrom_1 : decode cX5_heardFrom 1 = .ok (.getfield 12, 3) := by decide +kernel
theorem dX5_heardFrom_4 : decode cX5_heardFrom 4 = .ok (.aload_n 0, 1) := by decide +kernel
theorem dX5_heardFrom_5 : decode cX5_heardFrom 5 = .ok (.getfield 12, 3) := by decide +kernel
theorem dX5_heardFrom_8 : decode cX5_heardFrom 8 = .ok (.iload_n 1, 1) := by decide +kernel
theorem dX5_heardFrom_9 : decode cX5_heardFrom 9 = .ok (.iconst 4, 1) := by decide +kernel
theorem dX5_heardFrom_10 : decode cX5_heardFrom 10 = .ok (.imul, 1) := by decide +kernel
theorem dX5_heardFrom_11 : decode cX5_heardFrom 11 = .ok (.lload_n 2, 1) := by decide +kernel
theorem dX5_heardFrom_12 : decode cX5_heardFrom 12 = .ok (.invokevirtual 77, 3) := by decide +kernel
theorem dX5_heardFrom_15 : decode cX5_heardFrom 15 = .ok (.invokevirtual 80, 3) := by decide +kernel
theorem dX5_heardFrom_18 : decode cX5_heardFrom 18 = .ok (.ireturn, 1) := by decide +kernel
def f_Pupil_heardFrom (x1 : Int32) (x2 : Int64) (I : MI) (J : MJ) (Q : Int32 → MI → MJ → Prop) : Prop :=
  f_Machine_runFrom 38 (x1 * 4) x2 I J (fun r12 I12 J12 => f_Machine_answerAt 38 r12 I12 J12 (fun r15 I15 J15 => Q r15 I15 J15))
set_option maxRecDepth 100000 in
set_option maxHeartbeats 4000000 in
theorem w_Pupil_heardFrom_b0 {Γ : Ctx} {Q : Int32 → MI → MJ → Prop} {x1 : Int32} {x2 : Int64}  (X : Cx Γ cX5_heardFrom 4 RX5 3) (Y : Rt Γ (Pi Q) (Option.some Jvm.ClassFile.FieldType.int))   {I : MI} {J : MJ} (h : f_Pupil_heardFrom x1 x2 I J Q) : Wp Γ 4 0 [(0, .ref (ad Γ 37)), (1, .int x1), (2, .long x2)] [] I J := by
  unfold f_Pupil_heardFrom at h
  refine wp_aload_n X dX5_heardFrom_0 0 rfl ?_
  refine gf_X5_12 (o' := 38) X sh_37 rfl dX5_heardFrom_1 ?_
  refine wp_aload_n X dX5_heardFrom_4 0 rfl ?_
  refine gf_X5_12 (o' := 38) X sh_37 rfl dX5_heardFrom_5 ?_
  refine wp_iload_n X dX5_heardFrom_8 1 rfl ?_
  refine wp_iconst X dX5_heardFrom_9 ic_4 ?_
  refine wp_imul X dX5_heardFrom_10 ?_
  refine wp_lload_n X dX5_heardFrom_11 2 rfl ?_
  refine cv_Machine_runFrom X dX5_heardFrom_12 ml_X5_77 okM_38 h (Nat.le_of_ble_eq_true rfl) (by decide) (fun r12 I12 J12 h => ?_)
  refine cv_Machine_answerAt X dX5_heardFrom_15 ml_X5_80 okM_38 h (Nat.le_of_ble_eq_true rfl) (by decide) (fun r15 I15 J15 h => ?_)
  exact wp_iret X Y dX5_heardFrom_18 ⟨_, rfl, h⟩

theorem c_Pupil_heardFrom {l : Launch} {g : GE} (hg : Inj g) {I : MI} {J : MJ} {Q : Int32 → MI → MJ → Prop} {x1 : Int32} {x2 : Int64}  (h : f_Pupil_heardFrom x1 x2 I J Q) : Cm l g yX5_heardFrom cX5_heardFrom 4 (Option.some Jvm.ClassFile.FieldType.int) 3 [.ref (g.1 37), .int x1, .long x2] I J (Pi Q) := by
  refine Cm.of (As := fun ad => [.ref (ad 37), .int x1, .long x2]) hg pn_X5 (Nat.le_of_ble_eq_true rfl) ?_
  exact (fun Γ _ _ X Y => w_Pupil_heardFrom_b0 X Y  h)
theorem cv_Pupil_heardFrom {Γ : Ctx} {cc : ByteArray} {nL d pc index : Nat} {own : String} {L : List (Nat × Value)} {rest : List Value} {I : MI} {J : MJ} {Q : Int32 → MI → MJ → Prop} {x1 : Int32} {x2 : Int64} (X : Cx Γ cc nL own d) (hd : decode cc pc = .ok (.invokevirtual index, 3)) (hlink : Cond.methodLink own index yX5_heardFrom ∈ TT)  (h : f_Pupil_heardFrom x1 x2 I J Q) (hrest : (rest.map fun v => v.category).sum ≤ 8) (hdd : 3 + 1 ≤ d) (kk : ∀ (r : Int32) (I' : MI) (J' : MJ), Q r I' J' → Wp Γ nL (pc + 3) L (.int r :: rest) I' J') : Wp Γ nL pc L (.long x2 :: .int x1 :: .ref (ad Γ 37) :: rest) I J :=
  wp_callV (As := [.int x1, .long x2]) (rest := rest) (T := TX5) (N := 12) X hd hlink mv_X5_heardFrom sh_37 (by decide) rfl (c_Pupil_heardFrom X.inj  h) rfl rfl hrest hdd (fun v I' J' hv => by obtain ⟨r, rfl, hq⟩ := hv; exact kk r I' J' hq)
theorem dX5_addBehind_0 : decode cX5_addBehind 0 = .ok (.aload_n 0, 1) := by decide +kernel
theorem dX5_addBehind_1 : decode cX5_addBehind 1 = .ok (.getfield 50, 3) := by decide +kernel
theorem dX5_addBehind_4 : decode cX5_addBehind 4 = .ok (.bipush 14, 2) := by decide +kernel
theorem dX5_addBehind_6 : decode cX5_addBehind 6 = .ok (.if_icmp .lt 4, 3) := by decide +kernel
theorem dX5_addBehind_9 : decode cX5_addBehind 9 = .ok (.return_, 1) := by decide +kernel
theorem dX5_addBehind_10 : decode cX5_addBehind 10 = .ok (.aload_n 0, 1) := by decide +kernel
theorem dX5_addBehind_11 : decode cX5_addBehind 11 = .ok (.getfield 25, 3) := by decide +kernel
theorem dX5_addBehind_14 : decode cX5_addBehind 14 = .ok (.aload_n 0, 1) := by decide +kernel
theorem dX5_addBehind_15 : decode cX5_addBehind 15 = .ok (.getfield 50, 3) := by decide +kernel
theorem dX5_addBehind_18 : decode cX5_addBehind 18 = .ok (.lload_n 1, 1) := by decide +kernel
theorem dX5_addBehind_19 : decode cX5_addBehind 19 = .ok (.lastore, 1) := by decide +kernel
theorem dX5_addBehind_20 : decode cX5_addBehind 20 = .ok (.iconst 0, 1) := by decide +kernel
theorem dX5_addBehind_21 : decode cX5_addBehind 21 = .ok (.istore_n 3, 1) := by decide +kernel
theorem dX5_addBehind_22 : decode cX5_addBehind 22 = .ok (.iload_n 3, 1) := by decide +kernel
theorem dX5_addBehind_23 : decode cX5_addBehind 23 = .ok (.aload_n 0, 1) := by decide +kernel
theorem dX5_addBehind_24 : decode cX5_addBehind 24 = .ok (.getfield 12, 3) := by decide +kernel
theorem dX5_addBehind_27 : decode cX5_addBehind 27 = .ok (.getfield 70, 3) := by decide +kernel
theorem dX5_addBehind_30 : decode cX5_addBehind 30 = .ok (.if_icmp .ge 29, 3) := by decide +kernel
theorem dX5_addBehind_33 : decode cX5_addBehind 33 = .ok (.aload_n 0, 1) := by decide +kernel
theorem dX5_addBehind_34 : decode cX5_addBehind 34 = .ok (.getfield 32, 3) := by decide +kernel
theorem dX5_addBehind_37 : decode cX5_addBehind 37 = .ok (.iload_n 3, 1) := by decide +kernel
theorem dX5_addBehind_38 : decode cX5_addBehind 38 = .ok (.bipush 14, 2) := by decide +kernel
theorem dX5_addBehind_40 : decode cX5_addBehind 40 = .ok (.imul, 1) := by decide +kernel
theorem dX5_addBehind_41 : decode cX5_addBehind 41 = .ok (.aload_n 0, 1) := by decide +kernel
theorem dX5_addBehind_42 : decode cX5_addBehind 42 = .ok (.getfield 50, 3) := by decide +kernel
theorem dX5_addBehind_45 : decode cX5_addBehind 45 = .ok (.iadd, 1) := by decide +kernel
theorem dX5_addBehind_46 : decode cX5_addBehind 46 = .ok (.aload_n 0, 1) := by decide +kernel
theorem dX5_addBehind_47 : decode cX5_addBehind 47 = .ok (.iload_n 3, 1) := by decide +kernel
theorem dX5_addBehind_48 : decode cX5_addBehind 48 = .ok (.lload_n 1, 1) := by decide +kernel
theorem dX5_addBehind_49 : decode cX5_addBehind 49 = .ok (.invokevirtual 73, 3) := by decide +kernel
theorem dX5_addBehind_52 : decode cX5_addBehind 52 = .ok (.iastore, 1) := by decide +kernel
theorem dX5_addBehind_53 : decode cX5_addBehind 53 = .ok (.iinc 3 1, 3) := by decide +kernel
theorem dX5_addBehind_56 : decode cX5_addBehind 56 = .ok (.goto (-34), 3) := by decide +kernel
theorem dX5_addBehind_59 : decode cX5_addBehind 59 = .ok (.aload_n 0, 1) := by decide +kernel
theorem dX5_addBehind_60 : decode cX5_addBehind 60 = .ok (.dup, 1) := by decide +kernel
theorem dX5_addBehind_61 : decode cX5_addBehind 61 = .ok (.getfield 50, 3) := by decide +kernel
theorem dX5_addBehind_64 : decode cX5_addBehind 64 = .ok (.iconst 1, 1) := by decide +kernel
theorem dX5_addBehind_65 : decode cX5_addBehind 65 = .ok (.iadd, 1) := by decide +kernel
theorem dX5_addBehind_66 : decode cX5_addBehind 66 = .ok (.putfield 50, 3) := by decide +kernel
theorem dX5_addBehind_69 : decode cX5_addBehind 69 = .ok (.return_, 1) := by decide +kernel
def f_Pupil_addBehind_L22 (x1 : Int64) (k59 : MI → MJ → Prop) : Nat → Int32 → MI → MJ → Prop
  | 0, _, _, _ => False
  | nf22 + 1, x3, I, J =>
  (if (I 38 1) ≤ x3 then k59 I J else f_Pupil_heardFrom x3 x1 I J (fun r49 I49 J49 => vp_in ((x3 * 14) + (I 37 3)) 196 ∧ ∀ I52 : MI, I52 = sI I49 51 (upd (I49 51) ((x3 * 14) + (I 37 3)).toNatClampNeg r49) → ∀ t53 : Int32, t53 = x3 + 1 → f_Pupil_addBehind_L22 x1 k59 nf22 t53 I52 J49))
def f_Pupil_addBehind (x1 : Int64) (I : MI) (J : MJ) (Q : MI → MJ → Prop) : Prop :=
  (if (I 37 3) < 14 then vp_in (I 37 3) 14 ∧ ∀ J19 : MJ, J19 = sJ J 49 (vp_updL (J 49) (I 37 3).toNatClampNeg x1) → ∃ n, f_Pupil_addBehind_L22 x1 (fun (I : MI) (J : MJ) => ∀ I66 : MI, I66 = sI I 37 (upd (I 37) 3 ((I 37 3) + 1)) → Q I66 J) n 0 I J19 else Q I J)
set_option maxRecDepth 100000 in
set_option maxHeartbeats 4000000 in
theorem w_Pupil_addBehind_L22 {Γ : Ctx} {Q : MI → MJ → Prop} {x1 : Int64} {k59 : MI → MJ → Prop} (X : Cx Γ cX5_addBehind 4 RX5 4) (Y : Rt Γ (Pv Q) (Option.none : Option Jvm.ClassFile.FieldType))  (hk59 : ∀ (I : MI) (J : MJ), k59 I J → Wp Γ 4 59 [(0, .ref (ad Γ 37))] [] I J) : ∀ (n : Nat) (x3 : Int32) (I : MI) (J : MJ), f_Pupil_addBehind_L22 x1 k59 n x3 I J → Wp Γ 4 22 [(0, .ref (ad Γ 37)), (1, .long x1), (3, .int x3)] [] I J := by
  intro n
  induction n with
  | zero => intro x3 I J h; exact absurd h (by simp [f_Pupil_addBehind_L22])
  | succ n ih =>
  intro x3 I J h
  unfold f_Pupil_addBehind_L22 at h
  refine wp_iload_n X dX5_addBehind_22 2 rfl ?_
  refine wp_aload_n X dX5_addBehind_23 0 rfl ?_
  refine gf_X5_12 (o' := 38) X sh_37 rfl dX5_addBehind_24 ?_
  refine gf_X5_70 X okM_38.1 dX5_addBehind_27 ?_
  refine wp_icmp_ge (tgt := 59) X dX5_addBehind_30 (by decide) (fun hc => ?_) (fun hc => ?_)
  · have h := ite_t h hc
    refine wp_sub X [0] rfl ?_
    exact hk59 _ _ h
  · have h := ite_f h hc
    refine wp_aload_n X dX5_addBehind_33 0 rfl ?_
    refine gf_X5_32 (o' := 51) X sh_37 rfl dX5_addBehind_34 ?_
    refine wp_iload_n X dX5_addBehind_37 2 rfl ?_
    refine wp_bipush X dX5_addBehind_38 bi_14 ?_
    refine wp_imul X dX5_addBehind_40 ?_
    refine wp_aload_n X dX5_addBehind_41 0 rfl ?_
    refine gf_X5_50 X sh_37 dX5_addBehind_42 ?_
    refine wp_iadd X dX5_addBehind_45 ?_
    refine wp_aload_n X dX5_addBehind_46 0 rfl ?_
    refine wp_iload_n X dX5_addBehind_47 2 rfl ?_
    refine wp_lload_n X dX5_addBehind_48 1 rfl ?_
    refine cv_Pupil_heardFrom X dX5_addBehind_49 ml_X5_73  h (Nat.le_of_ble_eq_true rfl) (by decide) (fun r49 I49 J49 h => ?_)
    obtain ⟨hb52, h⟩ := h
    refine wp_iast X sh_51 hb52 dX5_addBehind_52 ?_
    refine wp_memI (fun I52 eI52 => ?_)
    have h := h I52 eI52
    obtain ⟨t53, et53⟩ : ∃ y : Int32, y = x3 + 1 := ⟨_, rfl⟩
    have h := h t53 et53
    refine wp_iinc (L' := [(3, .int t53), (0, .ref (ad Γ 37)), (1, .long x1)]) X dX5_addBehind_53 2 rfl (ii_1 et53) (by decide) rfl ?_
    refine wp_goto (tgt := 22) X dX5_addBehind_56 (by decide) ?_
    refine wp_sub X [1, 2, 0] rfl ?_
    exact ih _ _ _ h

set_option maxRecDepth 100000 in
set_option maxHeartbeats 4000000 in
theorem w_Pupil_addBehind_b0 {Γ : Ctx} {Q : MI → MJ → Prop} {x1 : Int64}  (X : Cx Γ cX5_addBehind 4 RX5 4) (Y : Rt Γ (Pv Q) (Option.none : Option Jvm.ClassFile.FieldType))   {I : MI} {J : MJ} (h : f_Pupil_addBehind x1 I J Q) : Wp Γ 4 0 [(0, .ref (ad Γ 37)), (1, .long x1)] [] I J := by
  unfold f_Pupil_addBehind at h
  refine wp_aload_n X dX5_addBehind_0 0 rfl ?_
  refine gf_X5_50 X sh_37 dX5_addBehind_1 ?_
  refine wp_bipush X dX5_addBehind_4 bi_14 ?_
  refine wp_icmp_lt (tgt := 10) X dX5_addBehind_6 (by decide) (fun hc => ?_) (fun hc => ?_)
  · have h := ite_t h hc
    refine wp_aload_n X dX5_addBehind_10 0 rfl ?_
    refine gf_X5_25 (o' := 49) X sh_37 rfl dX5_addBehind_11 ?_
    refine wp_aload_n X dX5_addBehind_14 0 rfl ?_
    refine gf_X5_50 X sh_37 dX5_addBehind_15 ?_
    refine wp_lload_n X dX5_addBehind_18 1 rfl ?_
    obtain ⟨hb19, h⟩ := h
    refine wp_last X sh_49 hb19 dX5_addBehind_19 ?_
    refine wp_memJ (fun J19 eJ19 => ?_)
    have h := h J19 eJ19
    refine wp_iconst X dX5_addBehind_20 ic_0 ?_
    refine wp_istore_n (L' := [(3, .int 0), (0, .ref (ad Γ 37)), (1, .long x1)]) X dX5_addBehind_21 rfl (by decide) rfl ?_
    obtain ⟨n, h⟩ := h
    refine wp_sub X [1, 2, 0] rfl ?_
    refine w_Pupil_addBehind_L22 X Y  ?_ n _ _ _ h
    · intro I J h
      refine wp_aload_n X dX5_addBehind_59 0 rfl ?_
      refine wp_dup X dX5_addBehind_60 rfl ?_
      refine gf_X5_50 X sh_37 dX5_addBehind_61 ?_
      refine wp_iconst X dX5_addBehind_64 ic_1 ?_
      refine wp_iadd X dX5_addBehind_65 ?_
      refine pf_X5_50 X sh_37 dX5_addBehind_66 (fun I66 eI66 => ?_)
      have h := h I66 eI66
      exact wp_vret X Y dX5_addBehind_69 ⟨rfl, h⟩
  · have h := ite_f h hc
    exact wp_vret X Y dX5_addBehind_9 ⟨rfl, h⟩

theorem c_Pupil_addBehind {l : Launch} {g : GE} (hg : Inj g) {I : MI} {J : MJ} {Q : MI → MJ → Prop} {x1 : Int64}  (h : f_Pupil_addBehind x1 I J Q) : Cm l g yX5_addBehind cX5_addBehind 4 (Option.none : Option Jvm.ClassFile.FieldType) 4 [.ref (g.1 37), .long x1] I J (Pv Q) := by
  refine Cm.of (As := fun ad => [.ref (ad 37), .long x1]) hg pn_X5 (Nat.le_of_ble_eq_true rfl) ?_
  exact (fun Γ _ _ X Y => w_Pupil_addBehind_b0 X Y  h)
theorem cv_Pupil_addBehind {Γ : Ctx} {cc : ByteArray} {nL d pc index : Nat} {own : String} {L : List (Nat × Value)} {rest : List Value} {I : MI} {J : MJ} {Q : MI → MJ → Prop} {x1 : Int64} (X : Cx Γ cc nL own d) (hd : decode cc pc = .ok (.invokevirtual index, 3)) (hlink : Cond.methodLink own index yX5_addBehind ∈ TT)  (h : f_Pupil_addBehind x1 I J Q) (hrest : (rest.map fun v => v.category).sum ≤ 8) (hdd : 4 + 1 ≤ d) (kk : ∀ (I' : MI) (J' : MJ), Q I' J' → Wp Γ nL (pc + 3) L rest I' J') : Wp Γ nL pc L (.long x1 :: .ref (ad Γ 37) :: rest) I J :=
  wp_callV (As := [.long x1]) (rest := rest) (T := TX5) (N := 12) X hd hlink mv_X5_addBehind sh_37 (by decide) rfl (c_Pupil_addBehind X.inj  h) rfl rfl hrest hdd (fun v I' J' hv => by obtain ⟨rfl, hq⟩ := hv; exact kk I' J' hq)
