theorem dX11_suite_0 : decode cX11_suite 0 = .ok (.aload_n 0, 1) := by decide +kernel
theorem dX11_suite_1 : decode cX11_suite 1 = .ok (.iload_n 1, 1) := by decide +kernel
theorem dX11_suite_2 : decode cX11_suite 2 = .ok (.iload_n 2, 1) := by decide +kernel
theorem dX11_suite_3 : decode cX11_suite 3 = .ok (.invokevirtual 357, 3) := by decide +kernel
theorem dX11_suite_6 : decode cX11_suite 6 = .ok (.ifCond .eq 10, 3) := by decide +kernel
theorem dX11_suite_9 : decode cX11_suite 9 = .ok (.aload_n 0, 1) := by decide +kernel
theorem dX11_suite_10 : decode cX11_suite 10 = .ok (.getfield 344, 3) := by decide +kernel
theorem dX11_suite_13 : decode cX11_suite 13 = .ok (.goto 4, 3) := by decide +kernel
theorem dX11_suite_16 : decode cX11_suite 16 = .ok (.iconst (-1), 1) := by decide +kernel
theorem dX11_suite_17 : decode cX11_suite 17 = .ok (.ireturn, 1) := by decide +kernel
def f_Model_suite (x1 : Int32) (x2 : Int32) (I : MI) (J : MJ) (Q : Int32 → MI → MJ → Prop) : Prop :=
  f_Model_findSuite x1 x2 I J (fun r3 I3 J3 => (if r3 = 0 then Q (-1) I3 J3 else Q (I3 177 42) I3 J3))
set_option maxRecDepth 100000 in
set_option maxHeartbeats 4000000 in
theorem w_Model_suite_b0 {Γ : Ctx} {Q : Int32 → MI → MJ → Prop} {x1 : Int32} {x2 : Int32}  (X : Cx Γ cX11_suite 3 RX11 5) (Y : Rt Γ (Pi Q) (Option.some Jvm.ClassFile.FieldType.int))   {I : MI} {J : MJ} (h : f_Model_suite x1 x2 I J Q) : Wp Γ 3 0 [(0, .ref (ad Γ 177)), (1, .int x1), (2, .int x2)] [] I J := by
  unfold f_Model_suite at h
  refine wp_aload_n X dX11_suite_0 0 rfl ?_
  refine wp_iload_n X dX11_suite_1 1 rfl ?_
  refine wp_iload_n X dX11_suite_2 2 rfl ?_
  refine cv_Model_findSuite X dX11_suite_3 ml_X11_357  h (Nat.le_of_ble_eq_true rfl) (by decide) (fun r3 I3 J3 h => ?_)
  refine wp_if_eq (tgt := 16) X dX11_suite_6 (by decide) (fun hc => ?_) (fun hc => ?_)
  · have h := ite_t h hc
    refine wp_iconst X dX11_suite_16 ic_m1 ?_
    exact wp_iret X Y dX11_suite_17 ⟨_, rfl, h⟩
  · have h := ite_f h hc
    refine wp_aload_n X dX11_suite_9 0 rfl ?_
    refine gf_X11_344 X sh_177 dX11_suite_10 ?_
    refine wp_goto (tgt := 17) X dX11_suite_13 (by decide) ?_
    exact wp_iret X Y dX11_suite_17 ⟨_, rfl, h⟩

theorem c_Model_suite {l : Launch} {g : GE} (hg : Inj g) {I : MI} {J : MJ} {Q : Int32 → MI → MJ → Prop} {x1 : Int32} {x2 : Int32}  (h : f_Model_suite x1 x2 I J Q) : Cm l g yX11_suite cX11_suite 3 (Option.some Jvm.ClassFile.FieldType.int) 5 [.ref (g.1 177), .int x1, .int x2] I J (Pi Q) := by
  refine Cm.of (As := fun ad => [.ref (ad 177), .int x1, .int x2]) hg pn_X11 (Nat.le_of_ble_eq_true rfl) ?_
  exact (fun Γ _ _ X Y => w_Model_suite_b0 X Y  h)
theorem cv_Model_suite {Γ : Ctx} {cc : ByteArray} {nL d pc index : Nat} {own : String} {L : List (Nat × Value)} {rest : List Value} {I : MI} {J : MJ} {Q : Int32 → MI → MJ → Prop} {x1 : Int32} {x2 : Int32} (X : Cx Γ cc nL own d) (hd : decode cc pc = .ok (.invokevirtual index, 3)) (hlink : Cond.methodLink own index yX11_suite ∈ TT)  (h : f_Model_suite x1 x2 I J Q) (hrest : (rest.map fun v => v.category).sum ≤ 8) (hdd : 5 + 1 ≤ d) (kk : ∀ (r : Int32) (I' : MI) (J' : MJ), Q r I' J' → Wp Γ nL (pc + 3) L (.int r :: rest) I' J') : Wp Γ nL pc L (.int x2 :: .int x1 :: .ref (ad Γ 177) :: rest) I J :=
  wp_callV (As := [.int x1, .int x2]) (rest := rest) (T := TX11) (N := 62) X hd hlink mv_X11_suite sh_177 (by decide) rfl (c_Model_suite X.inj  h) rfl rfl hrest hdd (fun v I' J' hv => by obtain ⟨r, rfl, hq⟩ := hv; exact kk r I' J' hq)
theorem dX11_passes_0 : decode cX11_passes 0 = .ok (.aload_n 0, 1) := by decide +kernel
theorem dX11_passes_1 : decode cX11_passes 1 = .ok (.iload_n 1, 1) := by decide +kernel
theorem dX11_passes_2 : decode cX11_passes 2 = .ok (.iload_n 3, 1) := by decide +kernel
theorem dX11_passes_3 : decode cX11_passes 3 = .ok (.invokevirtual 357, 3) := by decide +kernel
theorem dX11_passes_6 : decode cX11_passes 6 = .ok (.ifCond .eq 11, 3) := by decide +kernel
theorem dX11_passes_9 : decode cX11_passes 9 = .ok (.aload_n 0, 1) := by decide +kernel
theorem dX11_passes_10 : decode cX11_passes 10 = .ok (.iload_n 2, 1) := by decide +kernel
theorem dX11_passes_11 : decode cX11_passes 11 = .ok (.invokevirtual 242, 3) := by decide +kernel
theorem dX11_passes_14 : decode cX11_passes 14 = .ok (.ifCond .ne 7, 3) := by decide +kernel
theorem dX11_passes_17 : decode cX11_passes 17 = .ok (.ldc2_w 261, 3) := by decide +kernel
theorem dX11_passes_20 : decode cX11_passes 20 = .ok (.lreturn, 1) := by decide +kernel
theorem dX11_passes_21 : decode cX11_passes 21 = .ok (.iconst 0, 1) := by decide +kernel
theorem dX11_passes_22 : decode cX11_passes 22 = .ok (.istore 4, 2) := by decide +kernel
theorem dX11_passes_24 : decode cX11_passes 24 = .ok (.iload 4, 2) := by decide +kernel
theorem dX11_passes_26 : decode cX11_passes 26 = .ok (.aload_n 0, 1) := by decide +kernel
theorem dX11_passes_27 : decode cX11_passes 27 = .ok (.getfield 344, 3) := by decide +kernel
theorem dX11_passes_30 : decode cX11_passes 30 = .ok (.if_icmp .ge 44, 3) := by decide +kernel
theorem dX11_passes_33 : decode cX11_passes 33 = .ok (.aload_n 0, 1) := by decide +kernel
theorem dX11_passes_34 : decode cX11_passes 34 = .ok (.iload_n 1, 1) := by decide +kernel
theorem dX11_passes_35 : decode cX11_passes 35 = .ok (.aload_n 0, 1) := by decide +kernel
theorem dX11_passes_36 : decode cX11_passes 36 = .ok (.getfield 111, 3) := by decide +kernel
theorem dX11_passes_39 : decode cX11_passes 39 = .ok (.iload 4, 2) := by decide +kernel
theorem dX11_passes_41 : decode cX11_passes 41 = .ok (.laload, 1) := by decide +kernel
theorem dX11_passes_42 : decode cX11_passes 42 = .ok (.invokevirtual 253, 3) := by decide +kernel
theorem dX11_passes_45 : decode cX11_passes 45 = .ok (.aload_n 0, 1) := by decide +kernel
theorem dX11_passes_46 : decode cX11_passes 46 = .ok (.iload_n 2, 1) := by decide +kernel
theorem dX11_passes_47 : decode cX11_passes 47 = .ok (.aload_n 0, 1) := by decide +kernel
theorem dX11_passes_48 : decode cX11_passes 48 = .ok (.getfield 111, 3) := by decide +kernel
theorem dX11_passes_51 : decode cX11_passes 51 = .ok (.iload 4, 2) := by decide +kernel
theorem dX11_passes_53 : decode cX11_passes 53 = .ok (.laload, 1) := by decide +kernel
theorem dX11_passes_54 : decode cX11_passes 54 = .ok (.invokevirtual 253, 3) := by decide +kernel
theorem dX11_passes_57 : decode cX11_passes 57 = .ok (.if_icmp .eq 11, 3) := by decide +kernel
theorem dX11_passes_60 : decode cX11_passes 60 = .ok (.aload_n 0, 1) := by decide +kernel
theorem dX11_passes_61 : decode cX11_passes 61 = .ok (.getfield 111, 3) := by decide +kernel
theorem dX11_passes_64 : decode cX11_passes 64 = .ok (.iload 4, 2) := by decide +kernel
theorem dX11_passes_66 : decode cX11_passes 66 = .ok (.laload, 1) := by decide +kernel
theorem dX11_passes_67 : decode cX11_passes 67 = .ok (.lreturn, 1) := by decide +kernel
theorem dX11_passes_68 : decode cX11_passes 68 = .ok (.iinc 4 1, 3) := by decide +kernel
theorem dX11_passes_71 : decode cX11_passes 71 = .ok (.goto (-47), 3) := by decide +kernel
theorem dX11_passes_74 : decode cX11_passes 74 = .ok (.lconst 0, 1) := by decide +kernel
theorem dX11_passes_75 : decode cX11_passes 75 = .ok (.lreturn, 1) := by decide +kernel
def f_Model_passes_L24 (x1 : Int32) (x2 : Int32) (k60 : Int32 → MI → MJ → Prop) (k74 : MI → MJ → Prop) : Nat → Int32 → MI → MJ → Prop
  | 0, _, _, _ => False
  | nf24 + 1, x4, I, J =>
  (if (I 177 42) ≤ x4 then k74 I J else vp_in x4 6000 ∧ f_Model_answerBy x1 (J 211 x4.toNatClampNeg) I J (fun r42 I42 J42 => vp_in x4 6000 ∧ f_Model_answerBy x2 (J42 211 x4.toNatClampNeg) I42 J42 (fun r54 I54 J54 => (if r42 = r54 then ∀ t68 : Int32, t68 = x4 + 1 → f_Model_passes_L24 x1 x2 k60 k74 nf24 t68 I54 J54 else k60 x4 I54 J54))))
def f_Model_passes (x1 : Int32) (x2 : Int32) (x3 : Int32) (I : MI) (J : MJ) (Q : Int64 → MI → MJ → Prop) : Prop :=
  f_Model_findSuite x1 x3 I J (fun r3 I3 J3 => (if r3 = 0 then Q (-1) I3 J3 else f_Model_isMachine x2 I3 J3 (fun r11 I11 J11 => (if r11 = 0 then Q (-1) I11 J11 else ∃ n, f_Model_passes_L24 x1 x2 (fun (z60_x4 : Int32) (I : MI) (J : MJ) => vp_in z60_x4 6000 ∧ Q (J 211 z60_x4.toNatClampNeg) I J) (fun (I : MI) (J : MJ) => Q 0 I J) n 0 I11 J11))))
set_option maxRecDepth 100000 in
set_option maxHeartbeats 4000000 in
theorem w_Model_passes_L24 {Γ : Ctx} {Q : Int64 → MI → MJ → Prop} {x1 : Int32} {x2 : Int32} {k60 : Int32 → MI → MJ → Prop} {k74 : MI → MJ → Prop} (X : Cx Γ cX11_passes 5 RX11 5) (Y : Rt Γ (Pl Q) (Option.some Jvm.ClassFile.FieldType.long))  (hk60 : ∀ (x4 : Int32) (I : MI) (J : MJ), k60 x4 I J → Wp Γ 5 60 [(0, .ref (ad Γ 177)), (4, .int x4)] [] I J) (hk74 : ∀ (I : MI) (J : MJ), k74 I J → Wp Γ 5 74 [] [] I J) : ∀ (n : Nat) (x4 : Int32) (I : MI) (J : MJ), f_Model_passes_L24 x1 x2 k60 k74 n x4 I J → Wp Γ 5 24 [(0, .ref (ad Γ 177)), (1, .int x1), (2, .int x2), (4, .int x4)] [] I J := by
  intro n
  induction n with
  | zero => intro x4 I J h; exact absurd h (by simp [f_Model_passes_L24])
  | succ n ih =>
  intro x4 I J h
  unfold f_Model_passes_L24 at h
  refine wp_iload X dX11_passes_24 3 rfl ?_
  refine wp_aload_n X dX11_passes_26 0 rfl ?_
  refine gf_X11_344 X sh_177 dX11_passes_27 ?_
  refine wp_icmp_ge (tgt := 74) X dX11_passes_30 (by decide) (fun hc => ?_) (fun hc => ?_)
  · have h := ite_t h hc
    refine wp_sub X [] rfl ?_
    exact hk74 _ _ h
  · have h := ite_f h hc
    refine wp_aload_n X dX11_passes_33 0 rfl ?_
    refine wp_iload_n X dX11_passes_34 1 rfl ?_
    refine wp_aload_n X dX11_passes_35 0 rfl ?_
    refine gf_X11_111 (o' := 211) X sh_177 rfl dX11_passes_36 ?_
    refine wp_iload X dX11_passes_39 3 rfl ?_
    obtain ⟨hb41, h⟩ := h
    refine wp_lald X sh_211 hb41 dX11_passes_41 ?_
    refine cv_Model_answerBy X dX11_passes_42 ml_X11_253  h (Nat.le_of_ble_eq_true rfl) (by decide) (fun r42 I42 J42 h => ?_)
    refine wp_aload_n X dX11_passes_45 0 rfl ?_
    refine wp_iload_n X dX11_passes_46 2 rfl ?_
    refine wp_aload_n X dX11_passes_47 0 rfl ?_
    refine gf_X11_111 (o' := 211) X sh_177 rfl dX11_passes_48 ?_
    refine wp_iload X dX11_passes_51 3 rfl ?_
    obtain ⟨hb53, h⟩ := h
    refine wp_lald X sh_211 hb53 dX11_passes_53 ?_
    refine cv_Model_answerBy X dX11_passes_54 ml_X11_253  h (Nat.le_of_ble_eq_true rfl) (by decide) (fun r54 I54 J54 h => ?_)
    refine wp_icmp_eq (tgt := 68) X dX11_passes_57 (by decide) (fun hc => ?_) (fun hc => ?_)
    · have h := ite_t h hc
      obtain ⟨t68, et68⟩ : ∃ y : Int32, y = x4 + 1 := ⟨_, rfl⟩
      have h := h t68 et68
      refine wp_iinc (L' := [(4, .int t68), (0, .ref (ad Γ 177)), (1, .int x1), (2, .int x2)]) X dX11_passes_68 3 rfl (ii_1 et68) (by decide) rfl ?_
      refine wp_goto (tgt := 24) X dX11_passes_71 (by decide) ?_
      refine wp_sub X [1, 2, 3, 0] rfl ?_
      exact ih _ _ _ h
    · have h := ite_f h hc
      refine wp_sub X [0, 3] rfl ?_
      exact hk60 _ _ _ h

set_option maxRecDepth 100000 in
set_option maxHeartbeats 4000000 in
theorem w_Model_passes_b0 {Γ : Ctx} {Q : Int64 → MI → MJ → Prop} {x1 : Int32} {x2 : Int32} {x3 : Int32}  (X : Cx Γ cX11_passes 5 RX11 5) (Y : Rt Γ (Pl Q) (Option.some Jvm.ClassFile.FieldType.long))   {I : MI} {J : MJ} (h : f_Model_passes x1 x2 x3 I J Q) : Wp Γ 5 0 [(0, .ref (ad Γ 177)), (1, .int x1), (2, .int x2), (3, .int x3)] [] I J := by
  unfold f_Model_passes at h
  refine wp_aload_n X dX11_passes_0 0 rfl ?_
  refine wp_iload_n X dX11_passes_1 1 rfl ?_
  refine wp_iload_n X dX11_passes_2 3 rfl ?_
  refine cv_Model_findSuite X dX11_passes_3 ml_X11_357  h (Nat.le_of_ble_eq_true rfl) (by decide) (fun r3 I3 J3 h => ?_)
  refine wp_if_eq (tgt := 17) X dX11_passes_6 (by decide) (fun hc => ?_) (fun hc => ?_)
  · have h := ite_t h hc
    refine wp_ldc2 X kl_X11_261 dX11_passes_17 ?_
    exact wp_lret X Y dX11_passes_20 ⟨_, rfl, h⟩
  · have h := ite_f h hc
    refine wp_aload_n X dX11_passes_9 0 rfl ?_
    refine wp_iload_n X dX11_passes_10 2 rfl ?_
    refine cv_Model_isMachine X dX11_passes_11 ml_X11_242  h (Nat.le_of_ble_eq_true rfl) (by decide) (fun r11 I11 J11 h => ?_)
    refine wp_if_ne (tgt := 21) X dX11_passes_14 (by decide) (fun hc => ?_) (fun hc => ?_)
    · have h := ite_f h hc
      refine wp_iconst X dX11_passes_21 ic_0 ?_
      refine wp_istore (L' := [(4, .int 0), (0, .ref (ad Γ 177)), (1, .int x1), (2, .int x2), (3, .int x3)]) X dX11_passes_22 (by decide) rfl ?_
      obtain ⟨n, h⟩ := h
      refine wp_sub X [1, 2, 3, 0] rfl ?_
      refine w_Model_passes_L24 X Y  ?_ ?_ n _ _ _ h
      · intro z60_x4 I J h
        refine wp_aload_n X dX11_passes_60 0 rfl ?_
        refine gf_X11_111 (o' := 211) X sh_177 rfl dX11_passes_61 ?_
        refine wp_iload X dX11_passes_64 1 rfl ?_
        obtain ⟨hb66, h⟩ := h
        refine wp_lald X sh_211 hb66 dX11_passes_66 ?_
        exact wp_lret X Y dX11_passes_67 ⟨_, rfl, h⟩
      · intro I J h
        refine wp_lconst X dX11_passes_74 lc_0 ?_
        exact wp_lret X Y dX11_passes_75 ⟨_, rfl, h⟩
    · have h := ite_t h hc
      refine wp_ldc2 X kl_X11_261 dX11_passes_17 ?_
      exact wp_lret X Y dX11_passes_20 ⟨_, rfl, h⟩

theorem c_Model_passes {l : Launch} {g : GE} (hg : Inj g) {I : MI} {J : MJ} {Q : Int64 → MI → MJ → Prop} {x1 : Int32} {x2 : Int32} {x3 : Int32}  (h : f_Model_passes x1 x2 x3 I J Q) : Cm l g yX11_passes cX11_passes 5 (Option.some Jvm.ClassFile.FieldType.long) 5 [.ref (g.1 177), .int x1, .int x2, .int x3] I J (Pl Q) := by
  refine Cm.of (As := fun ad => [.ref (ad 177), .int x1, .int x2, .int x3]) hg pn_X11 (Nat.le_of_ble_eq_true rfl) ?_
  exact (fun Γ _ _ X Y => w_Model_passes_b0 X Y  h)
theorem cv_Model_passes {Γ : Ctx} {cc : ByteArray} {nL d pc index : Nat} {own : String} {L : List (Nat × Value)} {rest : List Value} {I : MI} {J : MJ} {Q : Int64 → MI → MJ → Prop} {x1 : Int32} {x2 : Int32} {x3 : Int32} (X : Cx Γ cc nL own d) (hd : decode cc pc = .ok (.invokevirtual index, 3)) (hlink : Cond.methodLink own index yX11_passes ∈ TT)  (h : f_Model_passes x1 x2 x3 I J Q) (hrest : (rest.map fun v => v.category).sum ≤ 8) (hdd : 5 + 1 ≤ d) (kk : ∀ (r : Int64) (I' : MI) (J' : MJ), Q r I' J' → Wp Γ nL (pc + 3) L (.long r :: rest) I' J') : Wp Γ nL pc L (.int x3 :: .int x2 :: .int x1 :: .ref (ad Γ 177) :: rest) I J :=
  wp_callV (As := [.int x1, .int x2, .int x3]) (rest := rest) (T := TX11) (N := 62) X hd hlink mv_X11_passes sh_177 (by decide) rfl (c_Model_passes X.inj  h) rfl rfl hrest hdd (fun v I' J' hv => by obtain ⟨r, rfl, hq⟩ := hv; exact kk r I' J' hq)
theorem dX11_teacher_0 : decode cX11_teacher 0 = .ok (.iload_n 1, 1) := by decide +kernel
theorem dX11_teacher_1 : decode cX11_teacher 1 = .ok (.invokestatic 145, 3) := by decide +kernel
theorem dX11_teacher_4 : decode cX11_teacher 4 = .ok (.ifCond .ne 9, 3) := by decide +kernel
theorem dX11_teacher_7 : decode cX11_teacher 7 = .ok (.aload_n 0, 1) := by decide +kernel
theorem dX11_teacher_8 : decode cX11_teacher 8 = .ok (.iconst 2, 1) := by decide +kernel
theorem dX11_teacher_9 : decode cX11_teacher 9 = .ok (.invokevirtual 219, 3) := by decide +kernel
theorem dX11_teacher_12 : decode cX11_teacher 12 = .ok (.ireturn, 1) := by decide +kernel
theorem dX11_teacher_13 : decode cX11_teacher 13 = .ok (.aload_n 0, 1) := by decide +kernel
theorem dX11_teacher_14 : decode cX11_teacher 14 = .ok (.iload_n 3, 1) := by decide +kernel
theorem dX11_teacher_15 : decode cX11_teacher 15 = .ok (.invokevirtual 222, 3) := by decide +kernel
theorem dX11_teacher_18 : decode cX11_teacher 18 = .ok (.ifCond .eq 13, 3) := by decide +kernel
theorem dX11_teacher_21 : decode cX11_teacher 21 = .ok (.aload_n 0, 1) := by decide +kernel
theorem dX11_teacher_22 : decode cX11_teacher 22 = .ok (.aload_n 0, 1) := by decide +kernel
theorem dX11_teacher_23 : decode cX11_teacher 23 = .ok (.iload_n 3, 1) := by decide +kernel
theorem dX11_teacher_24 : decode cX11_teacher 24 = .ok (.invokevirtual 222, 3) := by decide +kernel
theorem dX11_teacher_27 : decode cX11_teacher 27 = .ok (.invokevirtual 219, 3) := by decide +kernel
theorem dX11_teacher_30 : decode cX11_teacher 30 = .ok (.ireturn, 1) := by decide +kernel
theorem dX11_teacher_31 : decode cX11_teacher 31 = .ok (.iload_n 2, 1) := by decide +kernel
theorem dX11_teacher_32 : decode cX11_teacher 32 = .ok (.ifCond .lt 8, 3) := by decide +kernel
theorem dX11_teacher_35 : decode cX11_teacher 35 = .ok (.iload_n 2, 1) := by decide +kernel
theorem dX11_teacher_36 : decode cX11_teacher 36 = .ok (.iconst 2, 1) := by decide +kernel
theorem dX11_teacher_37 : decode cX11_teacher 37 = .ok (.if_icmp .le 9, 3) := by decide +kernel
theorem dX11_teacher_40 : decode cX11_teacher 40 = .ok (.aload_n 0, 1) := by decide +kernel
theorem dX11_teacher_41 : decode cX11_teacher 41 = .ok (.iconst 4, 1) := by decide +kernel
theorem dX11_teacher_42 : decode cX11_teacher 42 = .ok (.invokevirtual 219, 3) := by decide +kernel
theorem dX11_teacher_45 : decode cX11_teacher 45 = .ok (.ireturn, 1) := by decide +kernel
theorem dX11_teacher_46 : decode cX11_teacher 46 = .ok (.iload 4, 2) := by decide +kernel
theorem dX11_teacher_48 : decode cX11_teacher 48 = .ok (.ifCond .ge 9, 3) := by decide +kernel
theorem dX11_teacher_51 : decode cX11_teacher 51 = .ok (.aload_n 0, 1) := by decide +kernel
theorem dX11_teacher_52 : decode cX11_teacher 52 = .ok (.iconst 3, 1) := by decide +kernel
theorem dX11_teacher_53 : decode cX11_teacher 53 = .ok (.invokevirtual 219, 3) := by decide +kernel
theorem dX11_teacher_56 : decode cX11_teacher 56 = .ok (.ireturn, 1) := by decide +kernel
theorem dX11_teacher_57 : decode cX11_teacher 57 = .ok (.iload 4, 2) := by decide +kernel
theorem dX11_teacher_59 : decode cX11_teacher 59 = .ok (.bipush 30, 2) := by decide +kernel
theorem dX11_teacher_61 : decode cX11_teacher 61 = .ok (.if_icmp .le 9, 3) := by decide +kernel
theorem dX11_teacher_64 : decode cX11_teacher 64 = .ok (.aload_n 0, 1) := by decide +kernel
theorem dX11_teacher_65 : decode cX11_teacher 65 = .ok (.iconst 2, 1) := by decide +kernel
theorem dX11_teacher_66 : decode cX11_teacher 66 = .ok (.invokevirtual 219, 3) := by decide +kernel
theorem dX11_teacher_69 : decode cX11_teacher 69 = .ok (.ireturn, 1) := by decide +kernel
theorem dX11_teacher_70 : decode cX11_teacher 70 = .ok (.aload_n 0, 1) := by decide +kernel
theorem dX11_teacher_71 : decode cX11_teacher 71 = .ok (.iload_n 3, 1) := by decide +kernel
theorem dX11_teacher_72 : decode cX11_teacher 72 = .ok (.bipush 18, 2) := by decide +kernel
theorem dX11_teacher_74 : decode cX11_teacher 74 = .ok (.invokevirtual 276, 3) := by decide +kernel
theorem dX11_teacher_77 : decode cX11_teacher 77 = .ok (.ifCond .ne 9, 3) := by decide +kernel
theorem dX11_teacher_80 : decode cX11_teacher 80 = .ok (.aload_n 0, 1) := by decide +kernel
theorem dX11_teacher_81 : decode cX11_teacher 81 = .ok (.iconst 5, 1) := by decide +kernel
theorem dX11_teacher_82 : decode cX11_teacher 82 = .ok (.invokevirtual 219, 3) := by decide +kernel
theorem dX11_teacher_85 : decode cX11_teacher 85 = .ok (.ireturn, 1) := by decide +kernel
theorem dX11_teacher_86 : decode cX11_teacher 86 = .ok (.aload_n 0, 1) := by decide +kernel
theorem dX11_teacher_87 : decode cX11_teacher 87 = .ok (.iload_n 1, 1) := by decide +kernel
theorem dX11_teacher_88 : decode cX11_teacher 88 = .ok (.bipush 18, 2) := by decide +kernel
theorem dX11_teacher_90 : decode cX11_teacher 90 = .ok (.invokevirtual 153, 3) := by decide +kernel
theorem dX11_teacher_93 : decode cX11_teacher 93 = .ok (.aload_n 0, 1) := by decide +kernel
theorem dX11_teacher_94 : decode cX11_teacher 94 = .ok (.getfield 7, 3) := by decide +kernel
theorem dX11_teacher_97 : decode cX11_teacher 97 = .ok (.iload_n 1, 1) := by decide +kernel
theorem dX11_teacher_98 : decode cX11_teacher 98 = .ok (.iconst 4, 1) := by decide +kernel
theorem dX11_teacher_99 : decode cX11_teacher 99 = .ok (.iload_n 2, 1) := by decide +kernel
theorem dX11_teacher_100 : decode cX11_teacher 100 = .ok (.iadd, 1) := by decide +kernel
theorem dX11_teacher_101 : decode cX11_teacher 101 = .ok (.iastore, 1) := by decide +kernel
theorem dX11_teacher_102 : decode cX11_teacher 102 = .ok (.aload_n 0, 1) := by decide +kernel
theorem dX11_teacher_103 : decode cX11_teacher 103 = .ok (.getfield 13, 3) := by decide +kernel
theorem dX11_teacher_106 : decode cX11_teacher 106 = .ok (.iload_n 1, 1) := by decide +kernel
theorem dX11_teacher_107 : decode cX11_teacher 107 = .ok (.iload_n 2, 1) := by decide +kernel
theorem dX11_teacher_108 : decode cX11_teacher 108 = .ok (.ifCond .ne 8, 3) := by decide +kernel
theorem dX11_teacher_111 : decode cX11_teacher 111 = .ok (.bipush 30, 2) := by decide +kernel
theorem dX11_teacher_113 : decode cX11_teacher 113 = .ok (.goto 5, 3) := by decide +kernel
theorem dX11_teacher_116 : decode cX11_teacher 116 = .ok (.iload 4, 2) := by decide +kernel
theorem dX11_teacher_118 : decode cX11_teacher 118 = .ok (.iastore, 1) := by decide +kernel
theorem dX11_teacher_119 : decode cX11_teacher 119 = .ok (.aload_n 0, 1) := by decide +kernel
theorem dX11_teacher_120 : decode cX11_teacher 120 = .ok (.getfield 20, 3) := by decide +kernel
theorem dX11_teacher_123 : decode cX11_teacher 123 = .ok (.iload_n 1, 1) := by decide +kernel
theorem dX11_teacher_124 : decode cX11_teacher 124 = .ok (.iconst 0, 1) := by decide +kernel
theorem dX11_teacher_125 : decode cX11_teacher 125 = .ok (.iastore, 1) := by decide +kernel
theorem dX11_teacher_126 : decode cX11_teacher 126 = .ok (.aload_n 0, 1) := by decide +kernel
theorem dX11_teacher_127 : decode cX11_teacher 127 = .ok (.iconst 0, 1) := by decide +kernel
theorem dX11_teacher_128 : decode cX11_teacher 128 = .ok (.invokevirtual 157, 3) := by decide +kernel
theorem dX11_teacher_131 : decode cX11_teacher 131 = .ok (.ireturn, 1) := by decide +kernel
def f_Model_teacher_b118 (x1 : Int32) (s1 : Int32) (s2 : Int32) (Q : Int32 → MI → MJ → Prop) (I : MI) (J : MJ) : Prop :=
  vp_in s1 16 ∧ ∀ I118 : MI, I118 = sI I 179 (upd (I 179) s1.toNatClampNeg s2) → vp_in x1 16 ∧ ∀ I125 : MI, I125 = sI I118 181 (upd (I118 181) x1.toNatClampNeg 0) → f_Model_done (0 : Int32) I125 J (fun r128 I128 J128 => Q r128 I128 J128)
def f_Model_teacher_b40  (Q : Int32 → MI → MJ → Prop) (I : MI) (J : MJ) : Prop :=
  f_Model_refuse (4 : Int32) I J (fun r42 I42 J42 => Q r42 I42 J42)
def f_Model_teacher (x1 : Int32) (x2 : Int32) (x3 : Int32) (x4 : Int32) (I : MI) (J : MJ) (Q : Int32 → MI → MJ → Prop) : Prop :=
  f_Model_isPlace x1 I J (fun r1 I1 J1 => (if r1 = 0 then f_Model_refuse (2 : Int32) I1 J1 (fun r9 I9 J9 => Q r9 I9 J9) else f_Model_noMachine x3 I1 J1 (fun r15 I15 J15 => (if r15 = 0 then (if x2 < 0 then f_Model_teacher_b40 Q I15 J15 else (if x2 ≤ 2 then (if 0 ≤ x4 then (if x4 ≤ 30 then f_Model_findLeast x3 (18 : Int32) I15 J15 (fun r74 I74 J74 => (if r74 = 0 then f_Model_refuse (5 : Int32) I74 J74 (fun r82 I82 J82 => Q r82 I82 J82) else f_Model_become x1 (18 : Int32) I74 J74 (fun I90 J90 => vp_in x1 16 ∧ ∀ I101 : MI, I101 = sI I90 178 (upd (I90 178) x1.toNatClampNeg (4 + x2)) → (if x2 = 0 then f_Model_teacher_b118 x1 x1 30 Q I101 J90 else f_Model_teacher_b118 x1 x1 x4 Q I101 J90)))) else f_Model_refuse (2 : Int32) I15 J15 (fun r66 I66 J66 => Q r66 I66 J66)) else f_Model_refuse (3 : Int32) I15 J15 (fun r53 I53 J53 => Q r53 I53 J53)) else f_Model_teacher_b40 Q I15 J15)) else f_Model_noMachine x3 I15 J15 (fun r24 I24 J24 => f_Model_refuse r24 I24 J24 (fun r27 I27 J27 => Q r27 I27 J27))))))
set_option maxRecDepth 100000 in
set_option maxHeartbeats 4000000 in
theorem w_Model_teacher_b118 {Γ : Ctx} {Q : Int32 → MI → MJ → Prop} {x1 : Int32} {s1 : Int32} {s2 : Int32}  (X : Cx Γ cX11_teacher 5 RX11 4) (Y : Rt Γ (Pi Q) (Option.some Jvm.ClassFile.FieldType.int))   {I : MI} {J : MJ} (h : f_Model_teacher_b118 x1 s1 s2 Q I J) : Wp Γ 5 118 [(0, .ref (ad Γ 177)), (1, .int x1)] [.int s2, .int s1, .ref (ad Γ 179)] I J := by
  unfold f_Model_teacher_b118 at h
  obtain ⟨hb118, h⟩ := h
  refine wp_iast X sh_179 hb118 dX11_teacher_118 ?_
  refine wp_memI (fun I118 eI118 => ?_)
  have h := h I118 eI118
  refine wp_aload_n X dX11_teacher_119 0 rfl ?_
  refine gf_X11_20 (o' := 181) X sh_177 rfl dX11_teacher_120 ?_
  refine wp_iload_n X dX11_teacher_123 1 rfl ?_
  refine wp_iconst X dX11_teacher_124 ic_0 ?_
  obtain ⟨hb125, h⟩ := h
  refine wp_iast X sh_181 hb125 dX11_teacher_125 ?_
  refine wp_memI (fun I125 eI125 => ?_)
  have h := h I125 eI125
  refine wp_aload_n X dX11_teacher_126 0 rfl ?_
  refine wp_iconst X dX11_teacher_127 ic_0 ?_
  refine cv_Model_done X dX11_teacher_128 ml_X11_157  h (Nat.le_of_ble_eq_true rfl) (by decide) (fun r128 I128 J128 h => ?_)
  exact wp_iret X Y dX11_teacher_131 ⟨_, rfl, h⟩

set_option maxRecDepth 100000 in
set_option maxHeartbeats 4000000 in
theorem w_Model_teacher_b40 {Γ : Ctx} {Q : Int32 → MI → MJ → Prop}   (X : Cx Γ cX11_teacher 5 RX11 4) (Y : Rt Γ (Pi Q) (Option.some Jvm.ClassFile.FieldType.int))   {I : MI} {J : MJ} (h : f_Model_teacher_b40 Q I J) : Wp Γ 5 40 [(0, .ref (ad Γ 177))] [] I J := by
  unfold f_Model_teacher_b40 at h
  refine wp_aload_n X dX11_teacher_40 0 rfl ?_
  refine wp_iconst X dX11_teacher_41 ic_4 ?_
  refine cv_Model_refuse X dX11_teacher_42 ml_X11_219  h (Nat.le_of_ble_eq_true rfl) (by decide) (fun r42 I42 J42 h => ?_)
  exact wp_iret X Y dX11_teacher_45 ⟨_, rfl, h⟩

set_option maxRecDepth 100000 in
set_option maxHeartbeats 4000000 in
theorem w_Model_teacher_b0 {Γ : Ctx} {Q : Int32 → MI → MJ → Prop} {x1 : Int32} {x2 : Int32} {x3 : Int32} {x4 : Int32}  (X : Cx Γ cX11_teacher 5 RX11 4) (Y : Rt Γ (Pi Q) (Option.some Jvm.ClassFile.FieldType.int))   {I : MI} {J : MJ} (h : f_Model_teacher x1 x2 x3 x4 I J Q) : Wp Γ 5 0 [(0, .ref (ad Γ 177)), (1, .int x1), (2, .int x2), (3, .int x3), (4, .int x4)] [] I J := by
  unfold f_Model_teacher at h
  refine wp_iload_n X dX11_teacher_0 1 rfl ?_
  refine cs_Model_isPlace X dX11_teacher_1 ml_X11_145  h (Nat.le_of_ble_eq_true rfl) (by decide) (fun r1 I1 J1 h => ?_)
  refine wp_if_ne (tgt := 13) X dX11_teacher_4 (by decide) (fun hc => ?_) (fun hc => ?_)
  · have h := ite_f h hc
    refine wp_aload_n X dX11_teacher_13 0 rfl ?_
    refine wp_iload_n X dX11_teacher_14 3 rfl ?_
    refine cv_Model_noMachine X dX11_teacher_15 ml_X11_222  h (Nat.le_of_ble_eq_true rfl) (by decide) (fun r15 I15 J15 h => ?_)
    refine wp_if_eq (tgt := 31) X dX11_teacher_18 (by decide) (fun hc => ?_) (fun hc => ?_)
    · have h := ite_t h hc
      refine wp_iload_n X dX11_teacher_31 2 rfl ?_
      refine wp_if_lt (tgt := 40) X dX11_teacher_32 (by decide) (fun hc => ?_) (fun hc => ?_)
      · have h := ite_t h hc
        refine wp_sub X [0] rfl ?_
        exact w_Model_teacher_b40 X Y  h
      · have h := ite_f h hc
        refine wp_iload_n X dX11_teacher_35 2 rfl ?_
        refine wp_iconst X dX11_teacher_36 ic_2 ?_
        refine wp_icmp_le (tgt := 46) X dX11_teacher_37 (by decide) (fun hc => ?_) (fun hc => ?_)
        · have h := ite_t h hc
          refine wp_iload X dX11_teacher_46 4 rfl ?_
          refine wp_if_ge (tgt := 57) X dX11_teacher_48 (by decide) (fun hc => ?_) (fun hc => ?_)
          · have h := ite_t h hc
            refine wp_iload X dX11_teacher_57 4 rfl ?_
            refine wp_bipush X dX11_teacher_59 bi_30 ?_
            refine wp_icmp_le (tgt := 70) X dX11_teacher_61 (by decide) (fun hc => ?_) (fun hc => ?_)
            · have h := ite_t h hc
              refine wp_aload_n X dX11_teacher_70 0 rfl ?_
              refine wp_iload_n X dX11_teacher_71 3 rfl ?_
              refine wp_bipush X dX11_teacher_72 bi_18 ?_
              refine cv_Model_findLeast X dX11_teacher_74 ml_X11_276  h (Nat.le_of_ble_eq_true rfl) (by decide) (fun r74 I74 J74 h => ?_)
              refine wp_if_ne (tgt := 86) X dX11_teacher_77 (by decide) (fun hc => ?_) (fun hc => ?_)
              · have h := ite_f h hc
                refine wp_aload_n X dX11_teacher_86 0 rfl ?_
                refine wp_iload_n X dX11_teacher_87 1 rfl ?_
                refine wp_bipush X dX11_teacher_88 bi_18 ?_
                refine cv_Model_become X dX11_teacher_90 ml_X11_153  h (Nat.le_of_ble_eq_true rfl) (by decide) (fun I90 J90 h => ?_)
                refine wp_aload_n X dX11_teacher_93 0 rfl ?_
                refine gf_X11_7 (o' := 178) X sh_177 rfl dX11_teacher_94 ?_
                refine wp_iload_n X dX11_teacher_97 1 rfl ?_
                refine wp_iconst X dX11_teacher_98 ic_4 ?_
                refine wp_iload_n X dX11_teacher_99 2 rfl ?_
                refine wp_iadd X dX11_teacher_100 ?_
                obtain ⟨hb101, h⟩ := h
                refine wp_iast X sh_178 hb101 dX11_teacher_101 ?_
                refine wp_memI (fun I101 eI101 => ?_)
                have h := h I101 eI101
                refine wp_aload_n X dX11_teacher_102 0 rfl ?_
                refine gf_X11_13 (o' := 179) X sh_177 rfl dX11_teacher_103 ?_
                refine wp_iload_n X dX11_teacher_106 1 rfl ?_
                refine wp_iload_n X dX11_teacher_107 2 rfl ?_
                refine wp_if_ne (tgt := 116) X dX11_teacher_108 (by decide) (fun hc => ?_) (fun hc => ?_)
                · have h := ite_f h hc
                  refine wp_iload X dX11_teacher_116 4 rfl ?_
                  refine wp_sub X [0, 1] rfl ?_
                  exact w_Model_teacher_b118 X Y  h
                · have h := ite_t h hc
                  refine wp_bipush X dX11_teacher_111 bi_30 ?_
                  refine wp_goto (tgt := 118) X dX11_teacher_113 (by decide) ?_
                  refine wp_sub X [0, 1] rfl ?_
                  exact w_Model_teacher_b118 X Y  h
              · have h := ite_t h hc
                refine wp_aload_n X dX11_teacher_80 0 rfl ?_
                refine wp_iconst X dX11_teacher_81 ic_5 ?_
                refine cv_Model_refuse X dX11_teacher_82 ml_X11_219  h (Nat.le_of_ble_eq_true rfl) (by decide) (fun r82 I82 J82 h => ?_)
                exact wp_iret X Y dX11_teacher_85 ⟨_, rfl, h⟩
            · have h := ite_f h hc
              refine wp_aload_n X dX11_teacher_64 0 rfl ?_
              refine wp_iconst X dX11_teacher_65 ic_2 ?_
              refine cv_Model_refuse X dX11_teacher_66 ml_X11_219  h (Nat.le_of_ble_eq_true rfl) (by decide) (fun r66 I66 J66 h => ?_)
              exact wp_iret X Y dX11_teacher_69 ⟨_, rfl, h⟩
          · have h := ite_f h hc
            refine wp_aload_n X dX11_teacher_51 0 rfl ?_
            refine wp_iconst X dX11_teacher_52 ic_3 ?_
            refine cv_Model_refuse X dX11_teacher_53 ml_X11_219  h (Nat.le_of_ble_eq_true rfl) (by decide) (fun r53 I53 J53 h => ?_)
            exact wp_iret X Y dX11_teacher_56 ⟨_, rfl, h⟩
        · have h := ite_f h hc
          refine wp_sub X [0] rfl ?_
          exact w_Model_teacher_b40 X Y  h
    · have h := ite_f h hc
      refine wp_aload_n X dX11_teacher_21 0 rfl ?_
      refine wp_aload_n X dX11_teacher_22 0 rfl ?_
      refine wp_iload_n X dX11_teacher_23 3 rfl ?_
      refine cv_Model_noMachine X dX11_teacher_24 ml_X11_222  h (Nat.le_of_ble_eq_true rfl) (by decide) (fun r24 I24 J24 h => ?_)
      refine cv_Model_refuse X dX11_teacher_27 ml_X11_219  h (Nat.le_of_ble_eq_true rfl) (by decide) (fun r27 I27 J27 h => ?_)
      exact wp_iret X Y dX11_teacher_30 ⟨_, rfl, h⟩
  · have h := ite_t h hc
    refine wp_aload_n X dX11_teacher_7 0 rfl ?_
    refine wp_iconst X dX11_teacher_8 ic_2 ?_
    refine cv_Model_refuse X dX11_teacher_9 ml_X11_219  h (Nat.le_of_ble_eq_true rfl) (by decide) (fun r9 I9 J9 h => ?_)
    exact wp_iret X Y dX11_teacher_12 ⟨_, rfl, h⟩

theorem c_Model_teacher {l : Launch} {g : GE} (hg : Inj g) {I : MI} {J : MJ} {Q : Int32 → MI → MJ → Prop} {x1 : Int32} {x2 : Int32} {x3 : Int32} {x4 : Int32}  (h : f_Model_teacher x1 x2 x3 x4 I J Q) : Cm l g yX11_teacher cX11_teacher 5 (Option.some Jvm.ClassFile.FieldType.int) 4 [.ref (g.1 177), .int x1, .int x2, .int x3, .int x4] I J (Pi Q) := by
  refine Cm.of (As := fun ad => [.ref (ad 177), .int x1, .int x2, .int x3, .int x4]) hg pn_X11 (Nat.le_of_ble_eq_true rfl) ?_
  exact (fun Γ _ _ X Y => w_Model_teacher_b0 X Y  h)
theorem cv_Model_teacher {Γ : Ctx} {cc : ByteArray} {nL d pc index : Nat} {own : String} {L : List (Nat × Value)} {rest : List Value} {I : MI} {J : MJ} {Q : Int32 → MI → MJ → Prop} {x1 : Int32} {x2 : Int32} {x3 : Int32} {x4 : Int32} (X : Cx Γ cc nL own d) (hd : decode cc pc = .ok (.invokevirtual index, 3)) (hlink : Cond.methodLink own index yX11_teacher ∈ TT)  (h : f_Model_teacher x1 x2 x3 x4 I J Q) (hrest : (rest.map fun v => v.category).sum ≤ 8) (hdd : 4 + 1 ≤ d) (kk : ∀ (r : Int32) (I' : MI) (J' : MJ), Q r I' J' → Wp Γ nL (pc + 3) L (.int r :: rest) I' J') : Wp Γ nL pc L (.int x4 :: .int x3 :: .int x2 :: .int x1 :: .ref (ad Γ 177) :: rest) I J :=
  wp_callV (As := [.int x1, .int x2, .int x3, .int x4]) (rest := rest) (T := TX11) (N := 62) X hd hlink mv_X11_teacher sh_177 (by decide) rfl (c_Model_teacher X.inj  h) rfl rfl hrest hdd (fun v I' J' hv => by obtain ⟨r, rfl, hq⟩ := hv; exact kk r I' J' hq)
theorem dX11_forget_0 : decode cX11_forget 0 = .ok (.iload_n 1, 1) := by decide +kernel
theorem dX11_forget_1 : decode cX11_forget 1 = .ok (.invokestatic 145, 3) := by decide +kernel
theorem dX11_forget_4 : decode cX11_forget 4 = .ok (.ifCond .ne 9, 3) := by decide +kernel
theorem dX11_forget_7 : decode cX11_forget 7 = .ok (.aload_n 0, 1) := by decide +kernel
theorem dX11_forget_8 : decode cX11_forget 8 = .ok (.iconst 2, 1) := by decide +kernel
theorem dX11_forget_9 : decode cX11_forget 9 = .ok (.invokevirtual 219, 3) := by decide +kernel
theorem dX11_forget_12 : decode cX11_forget 12 = .ok (.ireturn, 1) := by decide +kernel
theorem dX11_forget_13 : decode cX11_forget 13 = .ok (.aload_n 0, 1) := by decide +kernel
theorem dX11_forget_14 : decode cX11_forget 14 = .ok (.getfield 7, 3) := by decide +kernel
theorem dX11_forget_17 : decode cX11_forget 17 = .ok (.iload_n 1, 1) := by decide +kernel
theorem dX11_forget_18 : decode cX11_forget 18 = .ok (.iaload, 1) := by decide +kernel
theorem dX11_forget_19 : decode cX11_forget 19 = .ok (.ifCond .ge 9, 3) := by decide +kernel
theorem dX11_forget_22 : decode cX11_forget 22 = .ok (.aload_n 0, 1) := by decide +kernel
theorem dX11_forget_23 : decode cX11_forget 23 = .ok (.iconst 1, 1) := by decide +kernel
theorem dX11_forget_24 : decode cX11_forget 24 = .ok (.invokevirtual 219, 3) := by decide +kernel
theorem dX11_forget_27 : decode cX11_forget 27 = .ok (.ireturn, 1) := by decide +kernel
theorem dX11_forget_28 : decode cX11_forget 28 = .ok (.aload_n 0, 1) := by decide +kernel
theorem dX11_forget_29 : decode cX11_forget 29 = .ok (.getfield 7, 3) := by decide +kernel
theorem dX11_forget_32 : decode cX11_forget 32 = .ok (.iload_n 1, 1) := by decide +kernel
theorem dX11_forget_33 : decode cX11_forget 33 = .ok (.iaload, 1) := by decide +kernel
theorem dX11_forget_34 : decode cX11_forget 34 = .ok (.bipush 6, 2) := by decide +kernel
theorem dX11_forget_36 : decode cX11_forget 36 = .ok (.if_icmp .eq 9, 3) := by decide +kernel
theorem dX11_forget_39 : decode cX11_forget 39 = .ok (.aload_n 0, 1) := by decide +kernel
theorem dX11_forget_40 : decode cX11_forget 40 = .ok (.iconst 4, 1) := by decide +kernel
theorem dX11_forget_41 : decode cX11_forget 41 = .ok (.invokevirtual 219, 3) := by decide +kernel
theorem dX11_forget_44 : decode cX11_forget 44 = .ok (.ireturn, 1) := by decide +kernel
theorem dX11_forget_45 : decode cX11_forget 45 = .ok (.lload_n 2, 1) := by decide +kernel
theorem dX11_forget_46 : decode cX11_forget 46 = .ok (.invokestatic 245, 3) := by decide +kernel
theorem dX11_forget_49 : decode cX11_forget 49 = .ok (.ifCond .ne 9, 3) := by decide +kernel
theorem dX11_forget_52 : decode cX11_forget 52 = .ok (.aload_n 0, 1) := by decide +kernel
theorem dX11_forget_53 : decode cX11_forget 53 = .ok (.iconst 2, 1) := by decide +kernel
theorem dX11_forget_54 : decode cX11_forget 54 = .ok (.invokevirtual 219, 3) := by decide +kernel
theorem dX11_forget_57 : decode cX11_forget 57 = .ok (.ireturn, 1) := by decide +kernel
theorem dX11_forget_58 : decode cX11_forget 58 = .ok (.aload_n 0, 1) := by decide +kernel
theorem dX11_forget_59 : decode cX11_forget 59 = .ok (.iload_n 1, 1) := by decide +kernel
theorem dX11_forget_60 : decode cX11_forget 60 = .ok (.lload_n 2, 1) := by decide +kernel
theorem dX11_forget_61 : decode cX11_forget 61 = .ok (.invokevirtual 249, 3) := by decide +kernel
theorem dX11_forget_64 : decode cX11_forget 64 = .ok (.ifCond .eq 10, 3) := by decide +kernel
theorem dX11_forget_67 : decode cX11_forget 67 = .ok (.aload_n 0, 1) := by decide +kernel
theorem dX11_forget_68 : decode cX11_forget 68 = .ok (.bipush 6, 2) := by decide +kernel
theorem dX11_forget_70 : decode cX11_forget 70 = .ok (.invokevirtual 219, 3) := by decide +kernel
theorem dX11_forget_73 : decode cX11_forget 73 = .ok (.ireturn, 1) := by decide +kernel
theorem dX11_forget_74 : decode cX11_forget 74 = .ok (.aload_n 0, 1) := by decide +kernel
theorem dX11_forget_75 : decode cX11_forget 75 = .ok (.getfield 20, 3) := by decide +kernel
theorem dX11_forget_78 : decode cX11_forget 78 = .ok (.iload_n 1, 1) := by decide +kernel
theorem dX11_forget_79 : decode cX11_forget 79 = .ok (.iaload, 1) := by decide +kernel
theorem dX11_forget_80 : decode cX11_forget 80 = .ok (.bipush 8, 2) := by decide +kernel
theorem dX11_forget_82 : decode cX11_forget 82 = .ok (.if_icmp .ne 9, 3) := by decide +kernel
theorem dX11_forget_85 : decode cX11_forget 85 = .ok (.aload_n 0, 1) := by decide +kernel
theorem dX11_forget_86 : decode cX11_forget 86 = .ok (.iconst 5, 1) := by decide +kernel
theorem dX11_forget_87 : decode cX11_forget 87 = .ok (.invokevirtual 219, 3) := by decide +kernel
theorem dX11_forget_90 : decode cX11_forget 90 = .ok (.ireturn, 1) := by decide +kernel
theorem dX11_forget_91 : decode cX11_forget 91 = .ok (.aload_n 0, 1) := by decide +kernel
theorem dX11_forget_92 : decode cX11_forget 92 = .ok (.getfield 16, 3) := by decide +kernel
theorem dX11_forget_95 : decode cX11_forget 95 = .ok (.bipush 8, 2) := by decide +kernel
theorem dX11_forget_97 : decode cX11_forget 97 = .ok (.iload_n 1, 1) := by decide +kernel
theorem dX11_forget_98 : decode cX11_forget 98 = .ok (.imul, 1) := by decide +kernel
theorem dX11_forget_99 : decode cX11_forget 99 = .ok (.aload_n 0, 1) := by decide +kernel
theorem dX11_forget_100 : decode cX11_forget 100 = .ok (.getfield 20, 3) := by decide +kernel
theorem dX11_forget_103 : decode cX11_forget 103 = .ok (.iload_n 1, 1) := by decide +kernel
theorem dX11_forget_104 : decode cX11_forget 104 = .ok (.iaload, 1) := by decide +kernel
theorem dX11_forget_105 : decode cX11_forget 105 = .ok (.iadd, 1) := by decide +kernel
theorem dX11_forget_106 : decode cX11_forget 106 = .ok (.lload_n 2, 1) := by decide +kernel
theorem dX11_forget_107 : decode cX11_forget 107 = .ok (.lastore, 1) := by decide +kernel
theorem dX11_forget_108 : decode cX11_forget 108 = .ok (.aload_n 0, 1) := by decide +kernel
theorem dX11_forget_109 : decode cX11_forget 109 = .ok (.getfield 20, 3) := by decide +kernel
theorem dX11_forget_112 : decode cX11_forget 112 = .ok (.iload_n 1, 1) := by decide +kernel
theorem dX11_forget_113 : decode cX11_forget 113 = .ok (.dup2, 1) := by decide +kernel
theorem dX11_forget_114 : decode cX11_forget 114 = .ok (.iaload, 1) := by decide +kernel
theorem dX11_forget_115 : decode cX11_forget 115 = .ok (.iconst 1, 1) := by decide +kernel
theorem dX11_forget_116 : decode cX11_forget 116 = .ok (.iadd, 1) := by decide +kernel
theorem dX11_forget_117 : decode cX11_forget 117 = .ok (.iastore, 1) := by decide +kernel
theorem dX11_forget_118 : decode cX11_forget 118 = .ok (.aload_n 0, 1) := by decide +kernel
theorem dX11_forget_119 : decode cX11_forget 119 = .ok (.aload_n 0, 1) := by decide +kernel
theorem dX11_forget_120 : decode cX11_forget 120 = .ok (.getfield 20, 3) := by decide +kernel
theorem dX11_forget_123 : decode cX11_forget 123 = .ok (.iload_n 1, 1) := by decide +kernel
theorem dX11_forget_124 : decode cX11_forget 124 = .ok (.iaload, 1) := by decide +kernel
theorem dX11_forget_125 : decode cX11_forget 125 = .ok (.invokevirtual 157, 3) := by decide +kernel
theorem dX11_forget_128 : decode cX11_forget 128 = .ok (.ireturn, 1) := by decide +kernel
def f_Model_forget (x1 : Int32) (x2 : Int64) (I : MI) (J : MJ) (Q : Int32 → MI → MJ → Prop) : Prop :=
  f_Model_isPlace x1 I J (fun r1 I1 J1 => (if r1 = 0 then f_Model_refuse (2 : Int32) I1 J1 (fun r9 I9 J9 => Q r9 I9 J9) else vp_in x1 16 ∧ (if 0 ≤ (I1 178 x1.toNatClampNeg) then vp_in x1 16 ∧ (if (I1 178 x1.toNatClampNeg) = 6 then f_Model_isWord x2 I1 J1 (fun r46 I46 J46 => (if r46 = 0 then f_Model_refuse (2 : Int32) I46 J46 (fun r54 I54 J54 => Q r54 I54 J54) else f_Model_isGone x1 x2 I46 J46 (fun r61 I61 J61 => (if r61 = 0 then vp_in x1 16 ∧ (if (I61 181 x1.toNatClampNeg) = 8 then f_Model_refuse (5 : Int32) I61 J61 (fun r87 I87 J87 => Q r87 I87 J87) else vp_in x1 16 ∧ vp_in ((8 * x1) + (I61 181 x1.toNatClampNeg)) 128 ∧ ∀ J107 : MJ, J107 = sJ J61 180 (vp_updL (J61 180) ((8 * x1) + (I61 181 x1.toNatClampNeg)).toNatClampNeg x2) → vp_in x1 16 ∧ vp_in x1 16 ∧ ∀ I117 : MI, I117 = sI I61 181 (upd (I61 181) x1.toNatClampNeg ((I61 181 x1.toNatClampNeg) + 1)) → vp_in x1 16 ∧ f_Model_done (I117 181 x1.toNatClampNeg) I117 J107 (fun r125 I125 J125 => Q r125 I125 J125)) else f_Model_refuse (6 : Int32) I61 J61 (fun r70 I70 J70 => Q r70 I70 J70))))) else f_Model_refuse (4 : Int32) I1 J1 (fun r41 I41 J41 => Q r41 I41 J41)) else f_Model_refuse (1 : Int32) I1 J1 (fun r24 I24 J24 => Q r24 I24 J24))))
set_option maxRecDepth 100000 in
set_option maxHeartbeats 4000000 in
theorem w_Model_forget_b0 {Γ : Ctx} {Q : Int32 → MI → MJ → Prop} {x1 : Int32} {x2 : Int64}  (X : Cx Γ cX11_forget 4 RX11 2) (Y : Rt Γ (Pi Q) (Option.some Jvm.ClassFile.FieldType.int))   {I : MI} {J : MJ} (h : f_Model_forget x1 x2 I J Q) : Wp Γ 4 0 [(0, .ref (ad Γ 177)), (1, .int x1), (2, .long x2)] [] I J := by
  unfold f_Model_forget at h
  refine wp_iload_n X dX11_forget_0 1 rfl ?_
  refine cs_Model_isPlace X dX11_forget_1 ml_X11_145  h (Nat.le_of_ble_eq_true rfl) (by decide) (fun r1 I1 J1 h => ?_)
  refine wp_if_ne (tgt := 13) X dX11_forget_4 (by decide) (fun hc => ?_) (fun hc => ?_)
  · have h := ite_f h hc
    refine wp_aload_n X dX11_forget_13 0 rfl ?_
    refine gf_X11_7 (o' := 178) X sh_177 rfl dX11_forget_14 ?_
    refine wp_iload_n X dX11_forget_17 1 rfl ?_
    obtain ⟨hb18, h⟩ := h
    refine wp_iald X sh_178 hb18 dX11_forget_18 ?_
    refine wp_if_ge (tgt := 28) X dX11_forget_19 (by decide) (fun hc => ?_) (fun hc => ?_)
    · have h := ite_t h hc
      refine wp_aload_n X dX11_forget_28 0 rfl ?_
      refine gf_X11_7 (o' := 178) X sh_177 rfl dX11_forget_29 ?_
      refine wp_iload_n X dX11_forget_32 1 rfl ?_
      obtain ⟨hb33, h⟩ := h
      refine wp_iald X sh_178 hb33 dX11_forget_33 ?_
      refine wp_bipush X dX11_forget_34 bi_6 ?_
      refine wp_icmp_eq (tgt := 45) X dX11_forget_36 (by decide) (fun hc => ?_) (fun hc => ?_)
      · have h := ite_t h hc
        refine wp_lload_n X dX11_forget_45 2 rfl ?_
        refine cs_Model_isWord X dX11_forget_46 ml_X11_245  h (Nat.le_of_ble_eq_true rfl) (by decide) (fun r46 I46 J46 h => ?_)
        refine wp_if_ne (tgt := 58) X dX11_forget_49 (by decide) (fun hc => ?_) (fun hc => ?_)
        · have h := ite_f h hc
          refine wp_aload_n X dX11_forget_58 0 rfl ?_
          refine wp_iload_n X dX11_forget_59 1 rfl ?_
          refine wp_lload_n X dX11_forget_60 2 rfl ?_
          refine cv_Model_isGone X dX11_forget_61 ml_X11_249  h (Nat.le_of_ble_eq_true rfl) (by decide) (fun r61 I61 J61 h => ?_)
          refine wp_if_eq (tgt := 74) X dX11_forget_64 (by decide) (fun hc => ?_) (fun hc => ?_)
          · have h := ite_t h hc
            refine wp_aload_n X dX11_forget_74 0 rfl ?_
            refine gf_X11_20 (o' := 181) X sh_177 rfl dX11_forget_75 ?_
            refine wp_iload_n X dX11_forget_78 1 rfl ?_
            obtain ⟨hb79, h⟩ := h
            refine wp_iald X sh_181 hb79 dX11_forget_79 ?_
            refine wp_bipush X dX11_forget_80 bi_8 ?_
            refine wp_icmp_ne (tgt := 91) X dX11_forget_82 (by decide) (fun hc => ?_) (fun hc => ?_)
            · have h := ite_f h hc
              refine wp_aload_n X dX11_forget_91 0 rfl ?_
              refine gf_X11_16 (o' := 180) X sh_177 rfl dX11_forget_92 ?_
              refine wp_bipush X dX11_forget_95 bi_8 ?_
              refine wp_iload_n X dX11_forget_97 1 rfl ?_
              refine wp_imul X dX11_forget_98 ?_
              refine wp_aload_n X dX11_forget_99 0 rfl ?_
              refine gf_X11_20 (o' := 181) X sh_177 rfl dX11_forget_100 ?_
              refine wp_iload_n X dX11_forget_103 1 rfl ?_
              obtain ⟨hb104, h⟩ := h
              refine wp_iald X sh_181 hb104 dX11_forget_104 ?_
              refine wp_iadd X dX11_forget_105 ?_
              refine wp_lload_n X dX11_forget_106 2 rfl ?_
              obtain ⟨hb107, h⟩ := h
              refine wp_last X sh_180 hb107 dX11_forget_107 ?_
              refine wp_memJ (fun J107 eJ107 => ?_)
              have h := h J107 eJ107
              refine wp_aload_n X dX11_forget_108 0 rfl ?_
              refine gf_X11_20 (o' := 181) X sh_177 rfl dX11_forget_109 ?_
              refine wp_iload_n X dX11_forget_112 1 rfl ?_
              refine wp_dup2_11 X dX11_forget_113 rfl rfl ?_
              obtain ⟨hb114, h⟩ := h
              refine wp_iald X sh_181 hb114 dX11_forget_114 ?_
              refine wp_iconst X dX11_forget_115 ic_1 ?_
              refine wp_iadd X dX11_forget_116 ?_
              obtain ⟨hb117, h⟩ := h
              refine wp_iast X sh_181 hb117 dX11_forget_117 ?_
              refine wp_memI (fun I117 eI117 => ?_)
              have h := h I117 eI117
              refine wp_aload_n X dX11_forget_118 0 rfl ?_
              refine wp_aload_n X dX11_forget_119 0 rfl ?_
              refine gf_X11_20 (o' := 181) X sh_177 rfl dX11_forget_120 ?_
              refine wp_iload_n X dX11_forget_123 1 rfl ?_
              obtain ⟨hb124, h⟩ := h
              refine wp_iald X sh_181 hb124 dX11_forget_124 ?_
              refine cv_Model_done X dX11_forget_125 ml_X11_157  h (Nat.le_of_ble_eq_true rfl) (by decide) (fun r125 I125 J125 h => ?_)
              exact wp_iret X Y dX11_forget_128 ⟨_, rfl, h⟩
            · have h := ite_t h hc
              refine wp_aload_n X dX11_forget_85 0 rfl ?_
              refine wp_iconst X dX11_forget_86 ic_5 ?_
              refine cv_Model_refuse X dX11_forget_87 ml_X11_219  h (Nat.le_of_ble_eq_true rfl) (by decide) (fun r87 I87 J87 h => ?_)
              exact wp_iret X Y dX11_forget_90 ⟨_, rfl, h⟩
          · have h := ite_f h hc
            refine wp_aload_n X dX11_forget_67 0 rfl ?_
            refine wp_bipush X dX11_forget_68 bi_6 ?_
            refine cv_Model_refuse X dX11_forget_70 ml_X11_219  h (Nat.le_of_ble_eq_true rfl) (by decide) (fun r70 I70 J70 h => ?_)
            exact wp_iret X Y dX11_forget_73 ⟨_, rfl, h⟩
        · have h := ite_t h hc
          refine wp_aload_n X dX11_forget_52 0 rfl ?_
          refine wp_iconst X dX11_forget_53 ic_2 ?_
          refine cv_Model_refuse X dX11_forget_54 ml_X11_219  h (Nat.le_of_ble_eq_true rfl) (by decide) (fun r54 I54 J54 h => ?_)
          exact wp_iret X Y dX11_forget_57 ⟨_, rfl, h⟩
      · have h := ite_f h hc
        refine wp_aload_n X dX11_forget_39 0 rfl ?_
        refine wp_iconst X dX11_forget_40 ic_4 ?_
        refine cv_Model_refuse X dX11_forget_41 ml_X11_219  h (Nat.le_of_ble_eq_true rfl) (by decide) (fun r41 I41 J41 h => ?_)
        exact wp_iret X Y dX11_forget_44 ⟨_, rfl, h⟩
    · have h := ite_f h hc
      refine wp_aload_n X dX11_forget_22 0 rfl ?_
      refine wp_iconst X dX11_forget_23 ic_1 ?_
      refine cv_Model_refuse X dX11_forget_24 ml_X11_219  h (Nat.le_of_ble_eq_true rfl) (by decide) (fun r24 I24 J24 h => ?_)
      exact wp_iret X Y dX11_forget_27 ⟨_, rfl, h⟩
  · have h := ite_t h hc
    refine wp_aload_n X dX11_forget_7 0 rfl ?_
    refine wp_iconst X dX11_forget_8 ic_2 ?_
    refine cv_Model_refuse X dX11_forget_9 ml_X11_219  h (Nat.le_of_ble_eq_true rfl) (by decide) (fun r9 I9 J9 h => ?_)
    exact wp_iret X Y dX11_forget_12 ⟨_, rfl, h⟩

theorem c_Model_forget {l : Launch} {g : GE} (hg : Inj g) {I : MI} {J : MJ} {Q : Int32 → MI → MJ → Prop} {x1 : Int32} {x2 : Int64}  (h : f_Model_forget x1 x2 I J Q) : Cm l g yX11_forget cX11_forget 4 (Option.some Jvm.ClassFile.FieldType.int) 2 [.ref (g.1 177), .int x1, .long x2] I J (Pi Q) := by
  refine Cm.of (As := fun ad => [.ref (ad 177), .int x1, .long x2]) hg pn_X11 (Nat.le_of_ble_eq_true rfl) ?_
  exact (fun Γ _ _ X Y => w_Model_forget_b0 X Y  h)
theorem cv_Model_forget {Γ : Ctx} {cc : ByteArray} {nL d pc index : Nat} {own : String} {L : List (Nat × Value)} {rest : List Value} {I : MI} {J : MJ} {Q : Int32 → MI → MJ → Prop} {x1 : Int32} {x2 : Int64} (X : Cx Γ cc nL own d) (hd : decode cc pc = .ok (.invokevirtual index, 3)) (hlink : Cond.methodLink own index yX11_forget ∈ TT)  (h : f_Model_forget x1 x2 I J Q) (hrest : (rest.map fun v => v.category).sum ≤ 8) (hdd : 2 + 1 ≤ d) (kk : ∀ (r : Int32) (I' : MI) (J' : MJ), Q r I' J' → Wp Γ nL (pc + 3) L (.int r :: rest) I' J') : Wp Γ nL pc L (.long x2 :: .int x1 :: .ref (ad Γ 177) :: rest) I J :=
  wp_callV (As := [.int x1, .long x2]) (rest := rest) (T := TX11) (N := 62) X hd hlink mv_X11_forget sh_177 (by decide) rfl (c_Model_forget X.inj  h) rfl rfl hrest hdd (fun v I' J' hv => by obtain ⟨r, rfl, hq⟩ := hv; exact kk r I' J' hq)
theorem dX11_taught_0 : decode cX11_taught 0 = .ok (.aload_n 0, 1) := by decide +kernel
theorem dX11_taught_1 : decode cX11_taught 1 = .ok (.invokevirtual 183, 3) := by decide +kernel
theorem dX11_taught_4 : decode cX11_taught 4 = .ok (.aload_n 0, 1) := by decide +kernel
theorem dX11_taught_5 : decode cX11_taught 5 = .ok (.bipush 16, 2) := by decide +kernel
theorem dX11_taught_7 : decode cX11_taught 7 = .ok (.lload_n 1, 1) := by decide +kernel
theorem dX11_taught_8 : decode cX11_taught 8 = .ok (.iconst 0, 1) := by decide +kernel
theorem dX11_taught_9 : decode cX11_taught 9 = .ok (.lload_n 1, 1) := by decide +kernel
theorem dX11_taught_10 : decode cX11_taught 10 = .ok (.invokestatic 161, 3) := by decide +kernel
theorem dX11_taught_13 : decode cX11_taught 13 = .ok (.invokevirtual 186, 3) := by decide +kernel
theorem dX11_taught_16 : decode cX11_taught 16 = .ok (.istore 7, 2) := by decide +kernel
theorem dX11_taught_18 : decode cX11_taught 18 = .ok (.iload 7, 2) := by decide +kernel
theorem dX11_taught_20 : decode cX11_taught 20 = .ok (.ifCond .eq 21, 3) := by decide +kernel
theorem dX11_taught_23 : decode cX11_taught 23 = .ok (.iload_n 3, 1) := by decide +kernel
theorem dX11_taught_24 : decode cX11_taught 24 = .ok (.ifCond .lt 13, 3) := by decide +kernel
theorem dX11_taught_27 : decode cX11_taught 27 = .ok (.aload_n 0, 1) := by decide +kernel
theorem dX11_taught_28 : decode cX11_taught 28 = .ok (.bipush 16, 2) := by decide +kernel
theorem dX11_taught_30 : decode cX11_taught 30 = .ok (.iload_n 3, 1) := by decide +kernel
theorem dX11_taught_31 : decode cX11_taught 31 = .ok (.invokevirtual 179, 3) := by decide +kernel
theorem dX11_taught_34 : decode cX11_taught 34 = .ok (.ifCond .eq 7, 3) := by decide +kernel
theorem dX11_taught_37 : decode cX11_taught 37 = .ok (.iconst 1, 1) := by decide +kernel
theorem dX11_taught_38 : decode cX11_taught 38 = .ok (.goto 4, 3) := by decide +kernel
theorem dX11_taught_41 : decode cX11_taught 41 = .ok (.iconst 0, 1) := by decide +kernel
theorem dX11_taught_42 : decode cX11_taught 42 = .ok (.istore 7, 2) := by decide +kernel
theorem dX11_taught_44 : decode cX11_taught 44 = .ok (.iload 7, 2) := by decide +kernel
theorem dX11_taught_46 : decode cX11_taught 46 = .ok (.ifCond .eq 25, 3) := by decide +kernel
theorem dX11_taught_49 : decode cX11_taught 49 = .ok (.aload_n 0, 1) := by decide +kernel
theorem dX11_taught_50 : decode cX11_taught 50 = .ok (.bipush 16, 2) := by decide +kernel
theorem dX11_taught_52 : decode cX11_taught 52 = .ok (.lload 4, 2) := by decide +kernel
theorem dX11_taught_54 : decode cX11_taught 54 = .ok (.iload 6, 2) := by decide +kernel
theorem dX11_taught_56 : decode cX11_taught 56 = .ok (.lload 4, 2) := by decide +kernel
theorem dX11_taught_58 : decode cX11_taught 58 = .ok (.invokestatic 161, 3) := by decide +kernel
theorem dX11_taught_61 : decode cX11_taught 61 = .ok (.invokevirtual 186, 3) := by decide +kernel
theorem dX11_taught_64 : decode cX11_taught 64 = .ok (.ifCond .eq 7, 3) := by decide +kernel
theorem dX11_taught_67 : decode cX11_taught 67 = .ok (.iconst 1, 1) := by decide +kernel
theorem dX11_taught_68 : decode cX11_taught 68 = .ok (.goto 4, 3) := by decide +kernel
theorem dX11_taught_71 : decode cX11_taught 71 = .ok (.iconst 0, 1) := by decide +kernel
theorem dX11_taught_72 : decode cX11_taught 72 = .ok (.istore 7, 2) := by decide +kernel
theorem dX11_taught_74 : decode cX11_taught 74 = .ok (.iload 7, 2) := by decide +kernel
theorem dX11_taught_76 : decode cX11_taught 76 = .ok (.ifCond .eq 19, 3) := by decide +kernel
theorem dX11_taught_79 : decode cX11_taught 79 = .ok (.aload_n 0, 1) := by decide +kernel
theorem dX11_taught_80 : decode cX11_taught 80 = .ok (.getfield 39, 3) := by decide +kernel
theorem dX11_taught_83 : decode cX11_taught 83 = .ok (.sipush 224, 3) := by decide +kernel
theorem dX11_taught_86 : decode cX11_taught 86 = .ok (.aload_n 0, 1) := by decide +kernel
theorem dX11_taught_87 : decode cX11_taught 87 = .ok (.getfield 165, 3) := by decide +kernel
theorem dX11_taught_90 : decode cX11_taught 90 = .ok (.iadd, 1) := by decide +kernel
theorem dX11_taught_91 : decode cX11_taught 91 = .ok (.iaload, 1) := by decide +kernel
theorem dX11_taught_92 : decode cX11_taught 92 = .ok (.goto 5, 3) := by decide +kernel
theorem dX11_taught_95 : decode cX11_taught 95 = .ok (.bipush 8, 2) := by decide +kernel
theorem dX11_taught_97 : decode cX11_taught 97 = .ok (.ireturn, 1) := by decide +kernel
def f_Model_taught_b72 (s0 : Int32) (Q : Int32 → MI → MJ → Prop) (I : MI) (J : MJ) : Prop :=
  (if s0 = 0 then Q 8 I J else vp_in (224 + (I 177 14)) 280 ∧ Q (I 187 (224 + (I 177 14)).toNatClampNeg) I J)
def f_Model_taught_b71  (Q : Int32 → MI → MJ → Prop) (I : MI) (J : MJ) : Prop :=
  f_Model_taught_b72 0 Q I J
def f_Model_taught_b42 (x4 : Int64) (x6 : Int32) (s0 : Int32) (Q : Int32 → MI → MJ → Prop) (I : MI) (J : MJ) : Prop :=
  (if s0 = 0 then f_Model_taught_b71 Q I J else f_Model_lengthOf x4 I J (fun r58 I58 J58 => f_Model_goAll (16 : Int32) x4 x6 r58 I58 J58 (fun r61 I61 J61 => (if r61 = 0 then f_Model_taught_b71 Q I61 J61 else f_Model_taught_b72 1 Q I61 J61))))
def f_Model_taught_b41 (x4 : Int64) (x6 : Int32) (Q : Int32 → MI → MJ → Prop) (I : MI) (J : MJ) : Prop :=
  f_Model_taught_b42 x4 x6 0 Q I J
def f_Model_taught_b37 (x4 : Int64) (x6 : Int32) (Q : Int32 → MI → MJ → Prop) (I : MI) (J : MJ) : Prop :=
  f_Model_taught_b42 x4 x6 1 Q I J
def f_Model_taught (x1 : Int64) (x3 : Int32) (x4 : Int64) (x6 : Int32) (I : MI) (J : MJ) (Q : Int32 → MI → MJ → Prop) : Prop :=
  f_Model_begin I J (fun I1 J1 => f_Model_lengthOf x1 I1 J1 (fun r10 I10 J10 => f_Model_goAll (16 : Int32) x1 (0 : Int32) r10 I10 J10 (fun r13 I13 J13 => (if r13 = 0 then f_Model_taught_b41 x4 x6 Q I13 J13 else (if x3 < 0 then f_Model_taught_b37 x4 x6 Q I13 J13 else f_Model_go (16 : Int32) x3 I13 J13 (fun r31 I31 J31 => (if r31 = 0 then f_Model_taught_b41 x4 x6 Q I31 J31 else f_Model_taught_b37 x4 x6 Q I31 J31)))))))
set_option maxRecDepth 100000 in
set_option maxHeartbeats 4000000 in
theorem w_Model_taught_b72 {Γ : Ctx} {Q : Int32 → MI → MJ → Prop} {s0 : Int32}  (X : Cx Γ cX11_taught 8 RX11 3) (Y : Rt Γ (Pi Q) (Option.some Jvm.ClassFile.FieldType.int))   {I : MI} {J : MJ} (h : f_Model_taught_b72 s0 Q I J) : Wp Γ 8 72 [(0, .ref (ad Γ 177))] [.int s0] I J := by
  unfold f_Model_taught_b72 at h
  refine wp_istore (L' := [(7, .int s0), (0, .ref (ad Γ 177))]) X dX11_taught_72 (by decide) rfl ?_
  refine wp_iload X dX11_taught_74 0 rfl ?_
  refine wp_if_eq (tgt := 95) X dX11_taught_76 (by decide) (fun hc => ?_) (fun hc => ?_)
  · have h := ite_t h hc
    refine wp_bipush X dX11_taught_95 bi_8 ?_
    exact wp_iret X Y dX11_taught_97 ⟨_, rfl, h⟩
  · have h := ite_f h hc
    refine wp_aload_n X dX11_taught_79 1 rfl ?_
    refine gf_X11_39 (o' := 187) X sh_177 rfl dX11_taught_80 ?_
    refine wp_sipush X dX11_taught_83 si_224 ?_
    refine wp_aload_n X dX11_taught_86 1 rfl ?_
    refine gf_X11_165 X sh_177 dX11_taught_87 ?_
    refine wp_iadd X dX11_taught_90 ?_
    obtain ⟨hb91, h⟩ := h
    refine wp_iald X sh_187 hb91 dX11_taught_91 ?_
    refine wp_goto (tgt := 97) X dX11_taught_92 (by decide) ?_
    exact wp_iret X Y dX11_taught_97 ⟨_, rfl, h⟩

set_option maxRecDepth 100000 in
set_option maxHeartbeats 4000000 in
theorem w_Model_taught_b71 {Γ : Ctx} {Q : Int32 → MI → MJ → Prop}   (X : Cx Γ cX11_taught 8 RX11 3) (Y : Rt Γ (Pi Q) (Option.some Jvm.ClassFile.FieldType.int))   {I : MI} {J : MJ} (h : f_Model_taught_b71 Q I J) : Wp Γ 8 71 [(0, .ref (ad Γ 177))] [] I J := by
  unfold f_Model_taught_b71 at h
  refine wp_iconst X dX11_taught_71 ic_0 ?_
  exact w_Model_taught_b72 X Y  h

set_option maxRecDepth 100000 in
set_option maxHeartbeats 4000000 in
theorem w_Model_taught_b42 {Γ : Ctx} {Q : Int32 → MI → MJ → Prop} {x4 : Int64} {x6 : Int32} {s0 : Int32}  (X : Cx Γ cX11_taught 8 RX11 3) (Y : Rt Γ (Pi Q) (Option.some Jvm.ClassFile.FieldType.int))   {I : MI} {J : MJ} (h : f_Model_taught_b42 x4 x6 s0 Q I J) : Wp Γ 8 42 [(0, .ref (ad Γ 177)), (4, .long x4), (6, .int x6)] [.int s0] I J := by
  unfold f_Model_taught_b42 at h
  refine wp_istore (L' := [(7, .int s0), (0, .ref (ad Γ 177)), (4, .long x4), (6, .int x6)]) X dX11_taught_42 (by decide) rfl ?_
  refine wp_iload X dX11_taught_44 0 rfl ?_
  refine wp_if_eq (tgt := 71) X dX11_taught_46 (by decide) (fun hc => ?_) (fun hc => ?_)
  · have h := ite_t h hc
    refine wp_sub X [1] rfl ?_
    exact w_Model_taught_b71 X Y  h
  · have h := ite_f h hc
    refine wp_aload_n X dX11_taught_49 1 rfl ?_
    refine wp_bipush X dX11_taught_50 bi_16 ?_
    refine wp_lload X dX11_taught_52 2 rfl ?_
    refine wp_iload X dX11_taught_54 3 rfl ?_
    refine wp_lload X dX11_taught_56 2 rfl ?_
    refine cs_Model_lengthOf X dX11_taught_58 ml_X11_161  h (Nat.le_of_ble_eq_true rfl) (by decide) (fun r58 I58 J58 h => ?_)
    refine cv_Model_goAll X dX11_taught_61 ml_X11_186  h (Nat.le_of_ble_eq_true rfl) (by decide) (fun r61 I61 J61 h => ?_)
    refine wp_if_eq (tgt := 71) X dX11_taught_64 (by decide) (fun hc => ?_) (fun hc => ?_)
    · have h := ite_t h hc
      refine wp_sub X [1] rfl ?_
      exact w_Model_taught_b71 X Y  h
    · have h := ite_f h hc
      refine wp_iconst X dX11_taught_67 ic_1 ?_
      refine wp_goto (tgt := 72) X dX11_taught_68 (by decide) ?_
      refine wp_sub X [1] rfl ?_
      exact w_Model_taught_b72 X Y  h

set_option maxRecDepth 100000 in
set_option maxHeartbeats 4000000 in
theorem w_Model_taught_b41 {Γ : Ctx} {Q : Int32 → MI → MJ → Prop} {x4 : Int64} {x6 : Int32}  (X : Cx Γ cX11_taught 8 RX11 3) (Y : Rt Γ (Pi Q) (Option.some Jvm.ClassFile.FieldType.int))   {I : MI} {J : MJ} (h : f_Model_taught_b41 x4 x6 Q I J) : Wp Γ 8 41 [(0, .ref (ad Γ 177)), (4, .long x4), (6, .int x6)] [] I J := by
  unfold f_Model_taught_b41 at h
  refine wp_iconst X dX11_taught_41 ic_0 ?_
  exact w_Model_taught_b42 X Y  h

set_option maxRecDepth 100000 in
set_option maxHeartbeats 4000000 in
theorem w_Model_taught_b37 {Γ : Ctx} {Q : Int32 → MI → MJ → Prop} {x4 : Int64} {x6 : Int32}  (X : Cx Γ cX11_taught 8 RX11 3) (Y : Rt Γ (Pi Q) (Option.some Jvm.ClassFile.FieldType.int))   {I : MI} {J : MJ} (h : f_Model_taught_b37 x4 x6 Q I J) : Wp Γ 8 37 [(0, .ref (ad Γ 177)), (4, .long x4), (6, .int x6)] [] I J := by
  unfold f_Model_taught_b37 at h
  refine wp_iconst X dX11_taught_37 ic_1 ?_
  refine wp_goto (tgt := 42) X dX11_taught_38 (by decide) ?_
  exact w_Model_taught_b42 X Y  h

set_option maxRecDepth 100000 in
set_option maxHeartbeats 4000000 in
theorem w_Model_taught_b0 {Γ : Ctx} {Q : Int32 → MI → MJ → Prop} {x1 : Int64} {x3 : Int32} {x4 : Int64} {x6 : Int32}  (X : Cx Γ cX11_taught 8 RX11 3) (Y : Rt Γ (Pi Q) (Option.some Jvm.ClassFile.FieldType.int))   {I : MI} {J : MJ} (h : f_Model_taught x1 x3 x4 x6 I J Q) : Wp Γ 8 0 [(0, .ref (ad Γ 177)), (1, .long x1), (3, .int x3), (4, .long x4), (6, .int x6)] [] I J := by
  unfold f_Model_taught at h
  refine wp_aload_n X dX11_taught_0 0 rfl ?_
  refine cv_Model_begin X dX11_taught_1 ml_X11_183  h (Nat.le_of_ble_eq_true rfl) (by decide) (fun I1 J1 h => ?_)
  refine wp_aload_n X dX11_taught_4 0 rfl ?_
  refine wp_bipush X dX11_taught_5 bi_16 ?_
  refine wp_lload_n X dX11_taught_7 1 rfl ?_
  refine wp_iconst X dX11_taught_8 ic_0 ?_
  refine wp_lload_n X dX11_taught_9 1 rfl ?_
  refine cs_Model_lengthOf X dX11_taught_10 ml_X11_161  h (Nat.le_of_ble_eq_true rfl) (by decide) (fun r10 I10 J10 h => ?_)
  refine cv_Model_goAll X dX11_taught_13 ml_X11_186  h (Nat.le_of_ble_eq_true rfl) (by decide) (fun r13 I13 J13 h => ?_)
  refine wp_istore (L' := [(7, .int r13), (0, .ref (ad Γ 177)), (1, .long x1), (3, .int x3), (4, .long x4), (6, .int x6)]) X dX11_taught_16 (by decide) rfl ?_
  refine wp_iload X dX11_taught_18 0 rfl ?_
  refine wp_if_eq (tgt := 41) X dX11_taught_20 (by decide) (fun hc => ?_) (fun hc => ?_)
  · have h := ite_t h hc
    refine wp_sub X [1, 4, 5] rfl ?_
    exact w_Model_taught_b41 X Y  h
  · have h := ite_f h hc
    refine wp_iload_n X dX11_taught_23 3 rfl ?_
    refine wp_if_lt (tgt := 37) X dX11_taught_24 (by decide) (fun hc => ?_) (fun hc => ?_)
    · have h := ite_t h hc
      refine wp_sub X [1, 4, 5] rfl ?_
      exact w_Model_taught_b37 X Y  h
    · have h := ite_f h hc
      refine wp_aload_n X dX11_taught_27 1 rfl ?_
      refine wp_bipush X dX11_taught_28 bi_16 ?_
      refine wp_iload_n X dX11_taught_30 3 rfl ?_
      refine cv_Model_go X dX11_taught_31 ml_X11_179  h (Nat.le_of_ble_eq_true rfl) (by decide) (fun r31 I31 J31 h => ?_)
      refine wp_if_eq (tgt := 41) X dX11_taught_34 (by decide) (fun hc => ?_) (fun hc => ?_)
      · have h := ite_t h hc
        refine wp_sub X [1, 4, 5] rfl ?_
        exact w_Model_taught_b41 X Y  h
      · have h := ite_f h hc
        refine wp_sub X [1, 4, 5] rfl ?_
        exact w_Model_taught_b37 X Y  h

theorem c_Model_taught {l : Launch} {g : GE} (hg : Inj g) {I : MI} {J : MJ} {Q : Int32 → MI → MJ → Prop} {x1 : Int64} {x3 : Int32} {x4 : Int64} {x6 : Int32}  (h : f_Model_taught x1 x3 x4 x6 I J Q) : Cm l g yX11_taught cX11_taught 8 (Option.some Jvm.ClassFile.FieldType.int) 3 [.ref (g.1 177), .long x1, .int x3, .long x4, .int x6] I J (Pi Q) := by
  refine Cm.of (As := fun ad => [.ref (ad 177), .long x1, .int x3, .long x4, .int x6]) hg pn_X11 (Nat.le_of_ble_eq_true rfl) ?_
  exact (fun Γ _ _ X Y => w_Model_taught_b0 X Y  h)
theorem cv_Model_taught {Γ : Ctx} {cc : ByteArray} {nL d pc index : Nat} {own : String} {L : List (Nat × Value)} {rest : List Value} {I : MI} {J : MJ} {Q : Int32 → MI → MJ → Prop} {x1 : Int64} {x3 : Int32} {x4 : Int64} {x6 : Int32} (X : Cx Γ cc nL own d) (hd : decode cc pc = .ok (.invokevirtual index, 3)) (hlink : Cond.methodLink own index yX11_taught ∈ TT)  (h : f_Model_taught x1 x3 x4 x6 I J Q) (hrest : (rest.map fun v => v.category).sum ≤ 8) (hdd : 3 + 1 ≤ d) (kk : ∀ (r : Int32) (I' : MI) (J' : MJ), Q r I' J' → Wp Γ nL (pc + 3) L (.int r :: rest) I' J') : Wp Γ nL pc L (.int x6 :: .long x4 :: .int x3 :: .long x1 :: .ref (ad Γ 177) :: rest) I J :=
  wp_callV (As := [.long x1, .int x3, .long x4, .int x6]) (rest := rest) (T := TX11) (N := 62) X hd hlink mv_X11_taught sh_177 (by decide) rfl (c_Model_taught X.inj  h) rfl rfl hrest hdd (fun v I' J' hv => by obtain ⟨r, rfl, hq⟩ := hv; exact kk r I' J' hq)
theorem dX11_hasRowOf_0 : decode cX11_hasRowOf 0 = .ok (.iconst 1, 1) := by decide +kernel
theorem dX11_hasRowOf_1 : decode cX11_hasRowOf 1 = .ok (.istore 5, 2) := by decide +kernel
theorem dX11_hasRowOf_3 : decode cX11_hasRowOf 3 = .ok (.iconst 0, 1) := by decide +kernel
theorem dX11_hasRowOf_4 : decode cX11_hasRowOf 4 = .ok (.istore 6, 2) := by decide +kernel
theorem dX11_hasRowOf_6 : decode cX11_hasRowOf 6 = .ok (.iload 6, 2) := by decide +kernel
theorem dX11_hasRowOf_8 : decode cX11_hasRowOf 8 = .ok (.aload_n 0, 1) := by decide +kernel
theorem dX11_hasRowOf_9 : decode cX11_hasRowOf 9 = .ok (.getfield 360, 3) := by decide +kernel
theorem dX11_hasRowOf_12 : decode cX11_hasRowOf 12 = .ok (.if_icmp .ge 58, 3) := by decide +kernel
theorem dX11_hasRowOf_15 : decode cX11_hasRowOf 15 = .ok (.iload 5, 2) := by decide +kernel
theorem dX11_hasRowOf_17 : decode cX11_hasRowOf 17 = .ok (.ifCond .eq 53, 3) := by decide +kernel
theorem dX11_hasRowOf_20 : decode cX11_hasRowOf 20 = .ok (.aload_n 0, 1) := by decide +kernel
theorem dX11_hasRowOf_21 : decode cX11_hasRowOf 21 = .ok (.lload_n 1, 1) := by decide +kernel
theorem dX11_hasRowOf_22 : decode cX11_hasRowOf 22 = .ok (.iload_n 3, 1) := by decide +kernel
theorem dX11_hasRowOf_23 : decode cX11_hasRowOf 23 = .ok (.aload_n 0, 1) := by decide +kernel
theorem dX11_hasRowOf_24 : decode cX11_hasRowOf 24 = .ok (.getfield 126, 3) := by decide +kernel
theorem dX11_hasRowOf_27 : decode cX11_hasRowOf 27 = .ok (.iload 6, 2) := by decide +kernel
theorem dX11_hasRowOf_29 : decode cX11_hasRowOf 29 = .ok (.laload, 1) := by decide +kernel
theorem dX11_hasRowOf_30 : decode cX11_hasRowOf 30 = .ok (.iconst 0, 1) := by decide +kernel
theorem dX11_hasRowOf_31 : decode cX11_hasRowOf 31 = .ok (.invokevirtual 363, 3) := by decide +kernel
theorem dX11_hasRowOf_34 : decode cX11_hasRowOf 34 = .ok (.aload_n 0, 1) := by decide +kernel
theorem dX11_hasRowOf_35 : decode cX11_hasRowOf 35 = .ok (.aload_n 0, 1) := by decide +kernel
theorem dX11_hasRowOf_36 : decode cX11_hasRowOf 36 = .ok (.getfield 123, 3) := by decide +kernel
theorem dX11_hasRowOf_39 : decode cX11_hasRowOf 39 = .ok (.iload 4, 2) := by decide +kernel
theorem dX11_hasRowOf_41 : decode cX11_hasRowOf 41 = .ok (.laload, 1) := by decide +kernel
theorem dX11_hasRowOf_42 : decode cX11_hasRowOf 42 = .ok (.iconst (-1), 1) := by decide +kernel
theorem dX11_hasRowOf_43 : decode cX11_hasRowOf 43 = .ok (.aload_n 0, 1) := by decide +kernel
theorem dX11_hasRowOf_44 : decode cX11_hasRowOf 44 = .ok (.getfield 126, 3) := by decide +kernel
theorem dX11_hasRowOf_47 : decode cX11_hasRowOf 47 = .ok (.iload 6, 2) := by decide +kernel
theorem dX11_hasRowOf_49 : decode cX11_hasRowOf 49 = .ok (.laload, 1) := by decide +kernel
theorem dX11_hasRowOf_50 : decode cX11_hasRowOf 50 = .ok (.iconst 0, 1) := by decide +kernel
theorem dX11_hasRowOf_51 : decode cX11_hasRowOf 51 = .ok (.invokevirtual 363, 3) := by decide +kernel
theorem dX11_hasRowOf_54 : decode cX11_hasRowOf 54 = .ok (.if_icmp .ne 7, 3) := by decide +kernel
theorem dX11_hasRowOf_57 : decode cX11_hasRowOf 57 = .ok (.iconst 1, 1) := by decide +kernel
theorem dX11_hasRowOf_58 : decode cX11_hasRowOf 58 = .ok (.goto 4, 3) := by decide +kernel
theorem dX11_hasRowOf_61 : decode cX11_hasRowOf 61 = .ok (.iconst 0, 1) := by decide +kernel
theorem dX11_hasRowOf_62 : decode cX11_hasRowOf 62 = .ok (.istore 5, 2) := by decide +kernel
theorem dX11_hasRowOf_64 : decode cX11_hasRowOf 64 = .ok (.iinc 6 1, 3) := by decide +kernel
theorem dX11_hasRowOf_67 : decode cX11_hasRowOf 67 = .ok (.goto (-61), 3) := by decide +kernel
theorem dX11_hasRowOf_70 : decode cX11_hasRowOf 70 = .ok (.iload 5, 2) := by decide +kernel
theorem dX11_hasRowOf_72 : decode cX11_hasRowOf 72 = .ok (.ireturn, 1) := by decide +kernel
def f_Model_hasRowOf_b62 (x6 : Int32) (s0 : Int32) (kh : Int32 → Int32 → MI → MJ → Prop) (I : MI) (J : MJ) : Prop :=
  ∀ t64 : Int32, t64 = x6 + 1 → kh s0 t64 I J
def f_Model_hasRowOf_L6 (x1 : Int64) (x3 : Int32) (x4 : Int32) (k70 : Int32 → MI → MJ → Prop) : Nat → Int32 → Int32 → MI → MJ → Prop
  | 0, _, _, _, _ => False
  | nf6 + 1, x5, x6, I, J =>
  (if (I 177 54) ≤ x6 then k70 x5 I J else (if x5 = 0 then k70 x5 I J else vp_in x6 64 ∧ f_Model_taught x1 x3 (J 216 x6.toNatClampNeg) (0 : Int32) I J (fun r31 I31 J31 => vp_in x4 32 ∧ vp_in x6 64 ∧ f_Model_taught (J31 215 x4.toNatClampNeg) (-1 : Int32) (J31 216 x6.toNatClampNeg) (0 : Int32) I31 J31 (fun r51 I51 J51 => (if r31 = r51 then f_Model_hasRowOf_b62 x6 1 (f_Model_hasRowOf_L6 x1 x3 x4 k70 nf6) I51 J51 else f_Model_hasRowOf_b62 x6 0 (f_Model_hasRowOf_L6 x1 x3 x4 k70 nf6) I51 J51)))))
def f_Model_hasRowOf (x1 : Int64) (x3 : Int32) (x4 : Int32) (I : MI) (J : MJ) (Q : Int32 → MI → MJ → Prop) : Prop :=
  ∃ n, f_Model_hasRowOf_L6 x1 x3 x4 (fun (z70_x5 : Int32) (I : MI) (J : MJ) => (z70_x5 = 0 ∨ z70_x5 = 1) ∧ Q z70_x5 I J) n 1 0 I J
set_option maxRecDepth 100000 in
set_option maxHeartbeats 4000000 in
theorem w_Model_hasRowOf_b62 {Γ : Ctx} {Q : Int32 → MI → MJ → Prop} {x1 : Int64} {x3 : Int32} {x4 : Int32} {x6 : Int32} {s0 : Int32} {kh : Int32 → Int32 → MI → MJ → Prop} (X : Cx Γ cX11_hasRowOf 7 RX11 4) (Y : Rt Γ (Pi Q) (Option.some Jvm.ClassFile.FieldType.boolean))  (hkh : ∀ (x5 : Int32) (x6 : Int32) (I : MI) (J : MJ), kh x5 x6 I J → Wp Γ 7 6 [(0, .ref (ad Γ 177)), (1, .long x1), (3, .int x3), (4, .int x4), (5, .int x5), (6, .int x6)] [] I J) {I : MI} {J : MJ} (h : f_Model_hasRowOf_b62 x6 s0 kh I J) : Wp Γ 7 62 [(0, .ref (ad Γ 177)), (1, .long x1), (3, .int x3), (4, .int x4), (6, .int x6)] [.int s0] I J := by
  unfold f_Model_hasRowOf_b62 at h
  refine wp_istore (L' := [(5, .int s0), (0, .ref (ad Γ 177)), (1, .long x1), (3, .int x3), (4, .int x4), (6, .int x6)]) X dX11_hasRowOf_62 (by decide) rfl ?_
  obtain ⟨t64, et64⟩ : ∃ y : Int32, y = x6 + 1 := ⟨_, rfl⟩
  have h := h t64 et64
  refine wp_iinc (L' := [(6, .int t64), (5, .int s0), (0, .ref (ad Γ 177)), (1, .long x1), (3, .int x3), (4, .int x4)]) X dX11_hasRowOf_64 5 rfl (ii_1 et64) (by decide) rfl ?_
  refine wp_goto (tgt := 6) X dX11_hasRowOf_67 (by decide) ?_
  refine wp_sub X [2, 3, 4, 5, 1, 0] rfl ?_
  exact hkh _ _ _ _ h

set_option maxRecDepth 100000 in
set_option maxHeartbeats 4000000 in
theorem w_Model_hasRowOf_L6 {Γ : Ctx} {Q : Int32 → MI → MJ → Prop} {x1 : Int64} {x3 : Int32} {x4 : Int32} {k70 : Int32 → MI → MJ → Prop} (X : Cx Γ cX11_hasRowOf 7 RX11 4) (Y : Rt Γ (Pi Q) (Option.some Jvm.ClassFile.FieldType.boolean))  (hk70 : ∀ (x5 : Int32) (I : MI) (J : MJ), k70 x5 I J → Wp Γ 7 70 [(5, .int x5)] [] I J) : ∀ (n : Nat) (x5 : Int32) (x6 : Int32) (I : MI) (J : MJ), f_Model_hasRowOf_L6 x1 x3 x4 k70 n x5 x6 I J → Wp Γ 7 6 [(0, .ref (ad Γ 177)), (1, .long x1), (3, .int x3), (4, .int x4), (5, .int x5), (6, .int x6)] [] I J := by
  intro n
  induction n with
  | zero => intro x5 x6 I J h; exact absurd h (by simp [f_Model_hasRowOf_L6])
  | succ n ih =>
  intro x5 x6 I J h
  unfold f_Model_hasRowOf_L6 at h
  refine wp_iload X dX11_hasRowOf_6 5 rfl ?_
  refine wp_aload_n X dX11_hasRowOf_8 0 rfl ?_
  refine gf_X11_360 X sh_177 dX11_hasRowOf_9 ?_
  refine wp_icmp_ge (tgt := 70) X dX11_hasRowOf_12 (by decide) (fun hc => ?_) (fun hc => ?_)
  · have h := ite_t h hc
    refine wp_sub X [4] rfl ?_
    exact hk70 _ _ _ h
  · have h := ite_f h hc
    refine wp_iload X dX11_hasRowOf_15 4 rfl ?_
    refine wp_if_eq (tgt := 70) X dX11_hasRowOf_17 (by decide) (fun hc => ?_) (fun hc => ?_)
    · have h := ite_t h hc
      refine wp_sub X [4] rfl ?_
      exact hk70 _ _ _ h
    · have h := ite_f h hc
      refine wp_aload_n X dX11_hasRowOf_20 0 rfl ?_
      refine wp_lload_n X dX11_hasRowOf_21 1 rfl ?_
      refine wp_iload_n X dX11_hasRowOf_22 2 rfl ?_
      refine wp_aload_n X dX11_hasRowOf_23 0 rfl ?_
      refine gf_X11_126 (o' := 216) X sh_177 rfl dX11_hasRowOf_24 ?_
      refine wp_iload X dX11_hasRowOf_27 5 rfl ?_
      obtain ⟨hb29, h⟩ := h
      refine wp_lald X sh_216 hb29 dX11_hasRowOf_29 ?_
      refine wp_iconst X dX11_hasRowOf_30 ic_0 ?_
      refine cv_Model_taught X dX11_hasRowOf_31 ml_X11_363  h (Nat.le_of_ble_eq_true rfl) (by decide) (fun r31 I31 J31 h => ?_)
      refine wp_aload_n X dX11_hasRowOf_34 0 rfl ?_
      refine wp_aload_n X dX11_hasRowOf_35 0 rfl ?_
      refine gf_X11_123 (o' := 215) X sh_177 rfl dX11_hasRowOf_36 ?_
      refine wp_iload X dX11_hasRowOf_39 3 rfl ?_
      obtain ⟨hb41, h⟩ := h
      refine wp_lald X sh_215 hb41 dX11_hasRowOf_41 ?_
      refine wp_iconst X dX11_hasRowOf_42 ic_m1 ?_
      refine wp_aload_n X dX11_hasRowOf_43 0 rfl ?_
      refine gf_X11_126 (o' := 216) X sh_177 rfl dX11_hasRowOf_44 ?_
      refine wp_iload X dX11_hasRowOf_47 5 rfl ?_
      obtain ⟨hb49, h⟩ := h
      refine wp_lald X sh_216 hb49 dX11_hasRowOf_49 ?_
      refine wp_iconst X dX11_hasRowOf_50 ic_0 ?_
      refine cv_Model_taught X dX11_hasRowOf_51 ml_X11_363  h (Nat.le_of_ble_eq_true rfl) (by decide) (fun r51 I51 J51 h => ?_)
      refine wp_icmp_ne (tgt := 61) X dX11_hasRowOf_54 (by decide) (fun hc => ?_) (fun hc => ?_)
      · have h := ite_f h hc
        refine wp_iconst X dX11_hasRowOf_61 ic_0 ?_
        refine wp_sub X [0, 1, 2, 3, 5] rfl ?_
        exact w_Model_hasRowOf_b62 X Y ih h
      · have h := ite_t h hc
        refine wp_iconst X dX11_hasRowOf_57 ic_1 ?_
        refine wp_goto (tgt := 62) X dX11_hasRowOf_58 (by decide) ?_
        refine wp_sub X [0, 1, 2, 3, 5] rfl ?_
        exact w_Model_hasRowOf_b62 X Y ih h

set_option maxRecDepth 100000 in
set_option maxHeartbeats 4000000 in
theorem w_Model_hasRowOf_b0 {Γ : Ctx} {Q : Int32 → MI → MJ → Prop} {x1 : Int64} {x3 : Int32} {x4 : Int32}  (X : Cx Γ cX11_hasRowOf 7 RX11 4) (Y : Rt Γ (Pi Q) (Option.some Jvm.ClassFile.FieldType.boolean))   {I : MI} {J : MJ} (h : f_Model_hasRowOf x1 x3 x4 I J Q) : Wp Γ 7 0 [(0, .ref (ad Γ 177)), (1, .long x1), (3, .int x3), (4, .int x4)] [] I J := by
  unfold f_Model_hasRowOf at h
  refine wp_iconst X dX11_hasRowOf_0 ic_1 ?_
  refine wp_istore (L' := [(5, .int 1), (0, .ref (ad Γ 177)), (1, .long x1), (3, .int x3), (4, .int x4)]) X dX11_hasRowOf_1 (by decide) rfl ?_
  refine wp_iconst X dX11_hasRowOf_3 ic_0 ?_
  refine wp_istore (L' := [(6, .int 0), (5, .int 1), (0, .ref (ad Γ 177)), (1, .long x1), (3, .int x3), (4, .int x4)]) X dX11_hasRowOf_4 (by decide) rfl ?_
  obtain ⟨n, h⟩ := h
  refine wp_sub X [2, 3, 4, 5, 1, 0] rfl ?_
  refine w_Model_hasRowOf_L6 X Y  ?_ n _ _ _ _ h
  · intro z70_x5 I J h
    refine wp_iload X dX11_hasRowOf_70 0 rfl ?_
    exact wp_zret X Y dX11_hasRowOf_72 h.1 ⟨_, rfl, h.2⟩

theorem c_Model_hasRowOf {l : Launch} {g : GE} (hg : Inj g) {I : MI} {J : MJ} {Q : Int32 → MI → MJ → Prop} {x1 : Int64} {x3 : Int32} {x4 : Int32}  (h : f_Model_hasRowOf x1 x3 x4 I J Q) : Cm l g yX11_hasRowOf cX11_hasRowOf 7 (Option.some Jvm.ClassFile.FieldType.boolean) 4 [.ref (g.1 177), .long x1, .int x3, .int x4] I J (Pi Q) := by
  refine Cm.of (As := fun ad => [.ref (ad 177), .long x1, .int x3, .int x4]) hg pn_X11 (Nat.le_of_ble_eq_true rfl) ?_
  exact (fun Γ _ _ X Y => w_Model_hasRowOf_b0 X Y  h)
theorem cv_Model_hasRowOf {Γ : Ctx} {cc : ByteArray} {nL d pc index : Nat} {own : String} {L : List (Nat × Value)} {rest : List Value} {I : MI} {J : MJ} {Q : Int32 → MI → MJ → Prop} {x1 : Int64} {x3 : Int32} {x4 : Int32} (X : Cx Γ cc nL own d) (hd : decode cc pc = .ok (.invokevirtual index, 3)) (hlink : Cond.methodLink own index yX11_hasRowOf ∈ TT)  (h : f_Model_hasRowOf x1 x3 x4 I J Q) (hrest : (rest.map fun v => v.category).sum ≤ 8) (hdd : 4 + 1 ≤ d) (kk : ∀ (r : Int32) (I' : MI) (J' : MJ), Q r I' J' → Wp Γ nL (pc + 3) L (.int r :: rest) I' J') : Wp Γ nL pc L (.int x4 :: .int x3 :: .long x1 :: .ref (ad Γ 177) :: rest) I J :=
  wp_callV (As := [.long x1, .int x3, .int x4]) (rest := rest) (T := TX11) (N := 62) X hd hlink mv_X11_hasRowOf sh_177 (by decide) rfl (c_Model_hasRowOf X.inj  h) rfl rfl hrest hdd (fun v I' J' hv => by obtain ⟨r, rfl, hq⟩ := hv; exact kk r I' J' hq)
theorem dX11_likeAhead_0 : decode cX11_likeAhead 0 = .ok (.iconst (-1), 1) := by decide +kernel
theorem dX11_likeAhead_1 : decode cX11_likeAhead 1 = .ok (.istore 4, 2) := by decide +kernel
theorem dX11_likeAhead_3 : decode cX11_likeAhead 3 = .ok (.iconst 0, 1) := by decide +kernel
theorem dX11_likeAhead_4 : decode cX11_likeAhead 4 = .ok (.istore 5, 2) := by decide +kernel
theorem dX11_likeAhead_6 : decode cX11_likeAhead 6 = .ok (.iload 5, 2) := by decide +kernel
theorem dX11_likeAhead_8 : decode cX11_likeAhead 8 = .ok (.aload_n 0, 1) := by decide +kernel
theorem dX11_likeAhead_9 : decode cX11_likeAhead 9 = .ok (.getfield 367, 3) := by decide +kernel
theorem dX11_likeAhead_12 : decode cX11_likeAhead 12 = .ok (.if_icmp .ge 33, 3) := by decide +kernel
theorem dX11_likeAhead_15 : decode cX11_likeAhead 15 = .ok (.iload 4, 2) := by decide +kernel
theorem dX11_likeAhead_17 : decode cX11_likeAhead 17 = .ok (.ifCond .ge 28, 3) := by decide +kernel
theorem dX11_likeAhead_20 : decode cX11_likeAhead 20 = .ok (.aload_n 0, 1) := by decide +kernel
theorem dX11_likeAhead_21 : decode cX11_likeAhead 21 = .ok (.lload_n 1, 1) := by decide +kernel
theorem dX11_likeAhead_22 : decode cX11_likeAhead 22 = .ok (.iload_n 3, 1) := by decide +kernel
theorem dX11_likeAhead_23 : decode cX11_likeAhead 23 = .ok (.iload 5, 2) := by decide +kernel
theorem dX11_likeAhead_25 : decode cX11_likeAhead 25 = .ok (.invokevirtual 370, 3) := by decide +kernel
theorem dX11_likeAhead_28 : decode cX11_likeAhead 28 = .ok (.ifCond .eq 8, 3) := by decide +kernel
theorem dX11_likeAhead_31 : decode cX11_likeAhead 31 = .ok (.iload 5, 2) := by decide +kernel
theorem dX11_likeAhead_33 : decode cX11_likeAhead 33 = .ok (.goto 4, 3) := by decide +kernel
theorem dX11_likeAhead_36 : decode cX11_likeAhead 36 = .ok (.iconst (-1), 1) := by decide +kernel
theorem dX11_likeAhead_37 : decode cX11_likeAhead 37 = .ok (.istore 4, 2) := by decide +kernel
theorem dX11_likeAhead_39 : decode cX11_likeAhead 39 = .ok (.iinc 5 1, 3) := by decide +kernel
theorem dX11_likeAhead_42 : decode cX11_likeAhead 42 = .ok (.goto (-36), 3) := by decide +kernel
theorem dX11_likeAhead_45 : decode cX11_likeAhead 45 = .ok (.iload 4, 2) := by decide +kernel
theorem dX11_likeAhead_47 : decode cX11_likeAhead 47 = .ok (.ireturn, 1) := by decide +kernel
def f_Model_likeAhead_b37 (x5 : Int32) (s0 : Int32) (kh : Int32 → Int32 → MI → MJ → Prop) (I : MI) (J : MJ) : Prop :=
  ∀ t39 : Int32, t39 = x5 + 1 → kh s0 t39 I J
def f_Model_likeAhead_L6 (x1 : Int64) (x3 : Int32) (k45 : Int32 → MI → MJ → Prop) : Nat → Int32 → Int32 → MI → MJ → Prop
  | 0, _, _, _, _ => False
  | nf6 + 1, x4, x5, I, J =>
  (if (I 177 53) ≤ x5 then k45 x4 I J else (if 0 ≤ x4 then k45 x4 I J else f_Model_hasRowOf x1 x3 x5 I J (fun r25 I25 J25 => (if r25 = 0 then f_Model_likeAhead_b37 x5 (-1) (f_Model_likeAhead_L6 x1 x3 k45 nf6) I25 J25 else f_Model_likeAhead_b37 x5 x5 (f_Model_likeAhead_L6 x1 x3 k45 nf6) I25 J25))))
def f_Model_likeAhead (x1 : Int64) (x3 : Int32) (I : MI) (J : MJ) (Q : Int32 → MI → MJ → Prop) : Prop :=
  ∃ n, f_Model_likeAhead_L6 x1 x3 (fun (z45_x4 : Int32) (I : MI) (J : MJ) => Q z45_x4 I J) n (-1) 0 I J
set_option maxRecDepth 100000 in
set_option maxHeartbeats 4000000 in
theorem w_Model_likeAhead_b37 {Γ : Ctx} {Q : Int32 → MI → MJ → Prop} {x1 : Int64} {x3 : Int32} {x5 : Int32} {s0 : Int32} {kh : Int32 → Int32 → MI → MJ → Prop} (X : Cx Γ cX11_likeAhead 6 RX11 5) (Y : Rt Γ (Pi Q) (Option.some Jvm.ClassFile.FieldType.int))  (hkh : ∀ (x4 : Int32) (x5 : Int32) (I : MI) (J : MJ), kh x4 x5 I J → Wp Γ 6 6 [(0, .ref (ad Γ 177)), (1, .long x1), (3, .int x3), (4, .int x4), (5, .int x5)] [] I J) {I : MI} {J : MJ} (h : f_Model_likeAhead_b37 x5 s0 kh I J) : Wp Γ 6 37 [(0, .ref (ad Γ 177)), (1, .long x1), (3, .int x3), (5, .int x5)] [.int s0] I J := by
  unfold f_Model_likeAhead_b37 at h
  refine wp_istore (L' := [(4, .int s0), (0, .ref (ad Γ 177)), (1, .long x1), (3, .int x3), (5, .int x5)]) X dX11_likeAhead_37 (by decide) rfl ?_
  obtain ⟨t39, et39⟩ : ∃ y : Int32, y = x5 + 1 := ⟨_, rfl⟩
  have h := h t39 et39
  refine wp_iinc (L' := [(5, .int t39), (4, .int s0), (0, .ref (ad Γ 177)), (1, .long x1), (3, .int x3)]) X dX11_likeAhead_39 4 rfl (ii_1 et39) (by decide) rfl ?_
  refine wp_goto (tgt := 6) X dX11_likeAhead_42 (by decide) ?_
  refine wp_sub X [2, 3, 4, 1, 0] rfl ?_
  exact hkh _ _ _ _ h

set_option maxRecDepth 100000 in
set_option maxHeartbeats 4000000 in
theorem w_Model_likeAhead_L6 {Γ : Ctx} {Q : Int32 → MI → MJ → Prop} {x1 : Int64} {x3 : Int32} {k45 : Int32 → MI → MJ → Prop} (X : Cx Γ cX11_likeAhead 6 RX11 5) (Y : Rt Γ (Pi Q) (Option.some Jvm.ClassFile.FieldType.int))  (hk45 : ∀ (x4 : Int32) (I : MI) (J : MJ), k45 x4 I J → Wp Γ 6 45 [(4, .int x4)] [] I J) : ∀ (n : Nat) (x4 : Int32) (x5 : Int32) (I : MI) (J : MJ), f_Model_likeAhead_L6 x1 x3 k45 n x4 x5 I J → Wp Γ 6 6 [(0, .ref (ad Γ 177)), (1, .long x1), (3, .int x3), (4, .int x4), (5, .int x5)] [] I J := by
  intro n
  induction n with
  | zero => intro x4 x5 I J h; exact absurd h (by simp [f_Model_likeAhead_L6])
  | succ n ih =>
  intro x4 x5 I J h
  unfold f_Model_likeAhead_L6 at h
  refine wp_iload X dX11_likeAhead_6 4 rfl ?_
  refine wp_aload_n X dX11_likeAhead_8 0 rfl ?_
  refine gf_X11_367 X sh_177 dX11_likeAhead_9 ?_
  refine wp_icmp_ge (tgt := 45) X dX11_likeAhead_12 (by decide) (fun hc => ?_) (fun hc => ?_)
  · have h := ite_t h hc
    refine wp_sub X [3] rfl ?_
    exact hk45 _ _ _ h
  · have h := ite_f h hc
    refine wp_iload X dX11_likeAhead_15 3 rfl ?_
    refine wp_if_ge (tgt := 45) X dX11_likeAhead_17 (by decide) (fun hc => ?_) (fun hc => ?_)
    · have h := ite_t h hc
      refine wp_sub X [3] rfl ?_
      exact hk45 _ _ _ h
    · have h := ite_f h hc
      refine wp_aload_n X dX11_likeAhead_20 0 rfl ?_
      refine wp_lload_n X dX11_likeAhead_21 1 rfl ?_
      refine wp_iload_n X dX11_likeAhead_22 2 rfl ?_
      refine wp_iload X dX11_likeAhead_23 4 rfl ?_
      refine cv_Model_hasRowOf X dX11_likeAhead_25 ml_X11_370  h (Nat.le_of_ble_eq_true rfl) (by decide) (fun r25 I25 J25 h => ?_)
      refine wp_if_eq (tgt := 36) X dX11_likeAhead_28 (by decide) (fun hc => ?_) (fun hc => ?_)
      · have h := ite_t h hc
        refine wp_iconst X dX11_likeAhead_36 ic_m1 ?_
        refine wp_sub X [0, 1, 2, 4] rfl ?_
        exact w_Model_likeAhead_b37 X Y ih h
      · have h := ite_f h hc
        refine wp_iload X dX11_likeAhead_31 4 rfl ?_
        refine wp_goto (tgt := 37) X dX11_likeAhead_33 (by decide) ?_
        refine wp_sub X [0, 1, 2, 4] rfl ?_
        exact w_Model_likeAhead_b37 X Y ih h

set_option maxRecDepth 100000 in
set_option maxHeartbeats 4000000 in
theorem w_Model_likeAhead_b0 {Γ : Ctx} {Q : Int32 → MI → MJ → Prop} {x1 : Int64} {x3 : Int32}  (X : Cx Γ cX11_likeAhead 6 RX11 5) (Y : Rt Γ (Pi Q) (Option.some Jvm.ClassFile.FieldType.int))   {I : MI} {J : MJ} (h : f_Model_likeAhead x1 x3 I J Q) : Wp Γ 6 0 [(0, .ref (ad Γ 177)), (1, .long x1), (3, .int x3)] [] I J := by
  unfold f_Model_likeAhead at h
  refine wp_iconst X dX11_likeAhead_0 ic_m1 ?_
  refine wp_istore (L' := [(4, .int (-1)), (0, .ref (ad Γ 177)), (1, .long x1), (3, .int x3)]) X dX11_likeAhead_1 (by decide) rfl ?_
  refine wp_iconst X dX11_likeAhead_3 ic_0 ?_
  refine wp_istore (L' := [(5, .int 0), (4, .int (-1)), (0, .ref (ad Γ 177)), (1, .long x1), (3, .int x3)]) X dX11_likeAhead_4 (by decide) rfl ?_
  obtain ⟨n, h⟩ := h
  refine wp_sub X [2, 3, 4, 1, 0] rfl ?_
  refine w_Model_likeAhead_L6 X Y  ?_ n _ _ _ _ h
  · intro z45_x4 I J h
    refine wp_iload X dX11_likeAhead_45 0 rfl ?_
    exact wp_iret X Y dX11_likeAhead_47 ⟨_, rfl, h⟩

theorem c_Model_likeAhead {l : Launch} {g : GE} (hg : Inj g) {I : MI} {J : MJ} {Q : Int32 → MI → MJ → Prop} {x1 : Int64} {x3 : Int32}  (h : f_Model_likeAhead x1 x3 I J Q) : Cm l g yX11_likeAhead cX11_likeAhead 6 (Option.some Jvm.ClassFile.FieldType.int) 5 [.ref (g.1 177), .long x1, .int x3] I J (Pi Q) := by
  refine Cm.of (As := fun ad => [.ref (ad 177), .long x1, .int x3]) hg pn_X11 (Nat.le_of_ble_eq_true rfl) ?_
  exact (fun Γ _ _ X Y => w_Model_likeAhead_b0 X Y  h)
theorem cv_Model_likeAhead {Γ : Ctx} {cc : ByteArray} {nL d pc index : Nat} {own : String} {L : List (Nat × Value)} {rest : List Value} {I : MI} {J : MJ} {Q : Int32 → MI → MJ → Prop} {x1 : Int64} {x3 : Int32} (X : Cx Γ cc nL own d) (hd : decode cc pc = .ok (.invokevirtual index, 3)) (hlink : Cond.methodLink own index yX11_likeAhead ∈ TT)  (h : f_Model_likeAhead x1 x3 I J Q) (hrest : (rest.map fun v => v.category).sum ≤ 8) (hdd : 5 + 1 ≤ d) (kk : ∀ (r : Int32) (I' : MI) (J' : MJ), Q r I' J' → Wp Γ nL (pc + 3) L (.int r :: rest) I' J') : Wp Γ nL pc L (.int x3 :: .long x1 :: .ref (ad Γ 177) :: rest) I J :=
  wp_callV (As := [.long x1, .int x3]) (rest := rest) (T := TX11) (N := 62) X hd hlink mv_X11_likeAhead sh_177 (by decide) rfl (c_Model_likeAhead X.inj  h) rfl rfl hrest hdd (fun v I' J' hv => by obtain ⟨r, rfl, hq⟩ := hv; exact kk r I' J' hq)
theorem dX11_goesOn_0 : decode cX11_goesOn 0 = .ok (.iconst 0, 1) := by decide +kernel
theorem dX11_goesOn_1 : decode cX11_goesOn 1 = .ok (.istore_n 1, 1) := by decide +kernel
theorem dX11_goesOn_2 : decode cX11_goesOn 2 = .ok (.iload_n 1, 1) := by decide +kernel
theorem dX11_goesOn_3 : decode cX11_goesOn 3 = .ok (.aload_n 0, 1) := by decide +kernel
theorem dX11_goesOn_4 : decode cX11_goesOn 4 = .ok (.getfield 367, 3) := by decide +kernel
theorem dX11_goesOn_7 : decode cX11_goesOn 7 = .ok (.if_icmp .ge 94, 3) := by decide +kernel
theorem dX11_goesOn_10 : decode cX11_goesOn 10 = .ok (.iconst 0, 1) := by decide +kernel
theorem dX11_goesOn_11 : decode cX11_goesOn 11 = .ok (.istore_n 2, 1) := by decide +kernel
theorem dX11_goesOn_12 : decode cX11_goesOn 12 = .ok (.iload_n 2, 1) := by decide +kernel
theorem dX11_goesOn_13 : decode cX11_goesOn 13 = .ok (.aload_n 0, 1) := by decide +kernel
theorem dX11_goesOn_14 : decode cX11_goesOn 14 = .ok (.getfield 36, 3) := by decide +kernel
theorem dX11_goesOn_17 : decode cX11_goesOn 17 = .ok (.bipush 16, 2) := by decide +kernel
theorem dX11_goesOn_19 : decode cX11_goesOn 19 = .ok (.iaload, 1) := by decide +kernel
theorem dX11_goesOn_20 : decode cX11_goesOn 20 = .ok (.if_icmp .ge 75, 3) := by decide +kernel
theorem dX11_goesOn_23 : decode cX11_goesOn 23 = .ok (.aload_n 0, 1) := by decide +kernel
theorem dX11_goesOn_24 : decode cX11_goesOn 24 = .ok (.aload_n 0, 1) := by decide +kernel
theorem dX11_goesOn_25 : decode cX11_goesOn 25 = .ok (.getfield 123, 3) := by decide +kernel
theorem dX11_goesOn_28 : decode cX11_goesOn 28 = .ok (.iload_n 1, 1) := by decide +kernel
theorem dX11_goesOn_29 : decode cX11_goesOn 29 = .ok (.laload, 1) := by decide +kernel
theorem dX11_goesOn_30 : decode cX11_goesOn 30 = .ok (.iload_n 2, 1) := by decide +kernel
theorem dX11_goesOn_31 : decode cX11_goesOn 31 = .ok (.lconst 1, 1) := by decide +kernel
theorem dX11_goesOn_32 : decode cX11_goesOn 32 = .ok (.iconst 0, 1) := by decide +kernel
theorem dX11_goesOn_33 : decode cX11_goesOn 33 = .ok (.invokevirtual 363, 3) := by decide +kernel
theorem dX11_goesOn_36 : decode cX11_goesOn 36 = .ok (.bipush 8, 2) := by decide +kernel
theorem dX11_goesOn_38 : decode cX11_goesOn 38 = .ok (.if_icmp .eq 51, 3) := by decide +kernel
theorem dX11_goesOn_41 : decode cX11_goesOn 41 = .ok (.aload_n 0, 1) := by decide +kernel
theorem dX11_goesOn_42 : decode cX11_goesOn 42 = .ok (.aload_n 0, 1) := by decide +kernel
theorem dX11_goesOn_43 : decode cX11_goesOn 43 = .ok (.getfield 123, 3) := by decide +kernel
theorem dX11_goesOn_46 : decode cX11_goesOn 46 = .ok (.iload_n 1, 1) := by decide +kernel
theorem dX11_goesOn_47 : decode cX11_goesOn 47 = .ok (.laload, 1) := by decide +kernel
theorem dX11_goesOn_48 : decode cX11_goesOn 48 = .ok (.iload_n 2, 1) := by decide +kernel
theorem dX11_goesOn_49 : decode cX11_goesOn 49 = .ok (.invokevirtual 374, 3) := by decide +kernel
theorem dX11_goesOn_52 : decode cX11_goesOn 52 = .ok (.ifCond .ge 37, 3) := by decide +kernel
theorem dX11_goesOn_55 : decode cX11_goesOn 55 = .ok (.aload_n 0, 1) := by decide +kernel
theorem dX11_goesOn_56 : decode cX11_goesOn 56 = .ok (.getfield 123, 3) := by decide +kernel
theorem dX11_goesOn_59 : decode cX11_goesOn 59 = .ok (.aload_n 0, 1) := by decide +kernel
theorem dX11_goesOn_60 : decode cX11_goesOn 60 = .ok (.getfield 367, 3) := by decide +kernel
theorem dX11_goesOn_63 : decode cX11_goesOn 63 = .ok (.ldc2_w 197, 3) := by decide +kernel
theorem dX11_goesOn_66 : decode cX11_goesOn 66 = .ok (.aload_n 0, 1) := by decide +kernel
theorem dX11_goesOn_67 : decode cX11_goesOn 67 = .ok (.getfield 123, 3) := by decide +kernel
theorem dX11_goesOn_70 : decode cX11_goesOn 70 = .ok (.iload_n 1, 1) := by decide +kernel
theorem dX11_goesOn_71 : decode cX11_goesOn 71 = .ok (.laload, 1) := by decide +kernel
theorem dX11_goesOn_72 : decode cX11_goesOn 72 = .ok (.lmul, 1) := by decide +kernel
theorem dX11_goesOn_73 : decode cX11_goesOn 73 = .ok (.iload_n 2, 1) := by decide +kernel
theorem dX11_goesOn_74 : decode cX11_goesOn 74 = .ok (.i2l, 1) := by decide +kernel
theorem dX11_goesOn_75 : decode cX11_goesOn 75 = .ok (.ladd, 1) := by decide +kernel
theorem dX11_goesOn_76 : decode cX11_goesOn 76 = .ok (.lastore, 1) := by decide +kernel
theorem dX11_goesOn_77 : decode cX11_goesOn 77 = .ok (.aload_n 0, 1) := by decide +kernel
theorem dX11_goesOn_78 : decode cX11_goesOn 78 = .ok (.dup, 1) := by decide +kernel
theorem dX11_goesOn_79 : decode cX11_goesOn 79 = .ok (.getfield 367, 3) := by decide +kernel
theorem dX11_goesOn_82 : decode cX11_goesOn 82 = .ok (.iconst 1, 1) := by decide +kernel
theorem dX11_goesOn_83 : decode cX11_goesOn 83 = .ok (.iadd, 1) := by decide +kernel
theorem dX11_goesOn_84 : decode cX11_goesOn 84 = .ok (.putfield 367, 3) := by decide +kernel
theorem dX11_goesOn_87 : decode cX11_goesOn 87 = .ok (.iconst 1, 1) := by decide +kernel
theorem dX11_goesOn_88 : decode cX11_goesOn 88 = .ok (.ireturn, 1) := by decide +kernel
theorem dX11_goesOn_89 : decode cX11_goesOn 89 = .ok (.iinc 2 1, 3) := by decide +kernel
theorem dX11_goesOn_92 : decode cX11_goesOn 92 = .ok (.goto (-80), 3) := by decide +kernel
theorem dX11_goesOn_95 : decode cX11_goesOn 95 = .ok (.iinc 1 1, 3) := by decide +kernel
theorem dX11_goesOn_98 : decode cX11_goesOn 98 = .ok (.goto (-96), 3) := by decide +kernel
theorem dX11_goesOn_101 : decode cX11_goesOn 101 = .ok (.iconst 0, 1) := by decide +kernel
theorem dX11_goesOn_102 : decode cX11_goesOn 102 = .ok (.ireturn, 1) := by decide +kernel
def f_Model_goesOn_b89 (x2 : Int32) (kh : Int32 → MI → MJ → Prop) (I : MI) (J : MJ) : Prop :=
  ∀ t89 : Int32, t89 = x2 + 1 → kh t89 I J
def f_Model_goesOn_L12 (x1 : Int32) (k55 : Int32 → MI → MJ → Prop) (k95 : MI → MJ → Prop) : Nat → Int32 → MI → MJ → Prop
  | 0, _, _, _ => False
  | nf12 + 1, x2, I, J =>
  vp_in 16 20 ∧ (if (I 186 (16 : Int32).toNatClampNeg) ≤ x2 then k95 I J else vp_in x1 32 ∧ f_Model_taught (J 215 x1.toNatClampNeg) x2 (1 : Int64) (0 : Int32) I J (fun r33 I33 J33 => (if r33 = 8 then f_Model_goesOn_b89 x2 (f_Model_goesOn_L12 x1 k55 k95 nf12) I33 J33 else vp_in x1 32 ∧ f_Model_likeAhead (J33 215 x1.toNatClampNeg) x2 I33 J33 (fun r49 I49 J49 => (if 0 ≤ r49 then f_Model_goesOn_b89 x2 (f_Model_goesOn_L12 x1 k55 k95 nf12) I49 J49 else k55 x2 I49 J49)))))
def f_Model_goesOn_L2 (k55 : Int32 → Int32 → MI → MJ → Prop) (k101 : MI → MJ → Prop) : Nat → Int32 → MI → MJ → Prop
  | 0, _, _, _ => False
  | nf2 + 1, x1, I, J =>
  (if (I 177 53) ≤ x1 then k101 I J else ∃ n, f_Model_goesOn_L12 x1 (fun (z55_x2 : Int32) (I : MI) (J : MJ) => k55 x1 z55_x2 I J) (fun (I : MI) (J : MJ) => ∀ t95 : Int32, t95 = x1 + 1 → f_Model_goesOn_L2 k55 k101 nf2 t95 I J) n 0 I J)
def f_Model_goesOn (I : MI) (J : MJ) (Q : Int32 → MI → MJ → Prop) : Prop :=
  ∃ n, f_Model_goesOn_L2 (fun (z55_x1 : Int32) (z55_x2 : Int32) (I : MI) (J : MJ) => vp_in z55_x1 32 ∧ vp_in (I 177 53) 32 ∧ ∀ J76 : MJ, J76 = sJ J 215 (vp_updL (J 215) (I 177 53).toNatClampNeg ((4 * (J 215 z55_x1.toNatClampNeg)) + z55_x2.toInt64)) → ∀ I84 : MI, I84 = sI I 177 (upd (I 177) 53 ((I 177 53) + 1)) → Q 1 I84 J76) (fun (I : MI) (J : MJ) => Q 0 I J) n 0 I J
set_option maxRecDepth 100000 in
set_option maxHeartbeats 4000000 in
theorem w_Model_goesOn_b89 {Γ : Ctx} {Q : Int32 → MI → MJ → Prop} {x1 : Int32} {x2 : Int32} {kh : Int32 → MI → MJ → Prop} (X : Cx Γ cX11_goesOn 3 RX11 6) (Y : Rt Γ (Pi Q) (Option.some Jvm.ClassFile.FieldType.boolean))  (hkh : ∀ (x2 : Int32) (I : MI) (J : MJ), kh x2 I J → Wp Γ 3 12 [(0, .ref (ad Γ 177)), (1, .int x1), (2, .int x2)] [] I J) {I : MI} {J : MJ} (h : f_Model_goesOn_b89 x2 kh I J) : Wp Γ 3 89 [(0, .ref (ad Γ 177)), (1, .int x1), (2, .int x2)] [] I J := by
  unfold f_Model_goesOn_b89 at h
  obtain ⟨t89, et89⟩ : ∃ y : Int32, y = x2 + 1 := ⟨_, rfl⟩
  have h := h t89 et89
  refine wp_iinc (L' := [(2, .int t89), (0, .ref (ad Γ 177)), (1, .int x1)]) X dX11_goesOn_89 2 rfl (ii_1 et89) (by decide) rfl ?_
  refine wp_goto (tgt := 12) X dX11_goesOn_92 (by decide) ?_
  refine wp_sub X [1, 2, 0] rfl ?_
  exact hkh _ _ _ h

set_option maxRecDepth 100000 in
set_option maxHeartbeats 4000000 in
theorem w_Model_goesOn_L12 {Γ : Ctx} {Q : Int32 → MI → MJ → Prop} {x1 : Int32} {k55 : Int32 → MI → MJ → Prop} {k95 : MI → MJ → Prop} (X : Cx Γ cX11_goesOn 3 RX11 6) (Y : Rt Γ (Pi Q) (Option.some Jvm.ClassFile.FieldType.boolean))  (hk55 : ∀ (x2 : Int32) (I : MI) (J : MJ), k55 x2 I J → Wp Γ 3 55 [(0, .ref (ad Γ 177)), (1, .int x1), (2, .int x2)] [] I J) (hk95 : ∀ (I : MI) (J : MJ), k95 I J → Wp Γ 3 95 [(0, .ref (ad Γ 177)), (1, .int x1)] [] I J) : ∀ (n : Nat) (x2 : Int32) (I : MI) (J : MJ), f_Model_goesOn_L12 x1 k55 k95 n x2 I J → Wp Γ 3 12 [(0, .ref (ad Γ 177)), (1, .int x1), (2, .int x2)] [] I J := by
  intro n
  induction n with
  | zero => intro x2 I J h; exact absurd h (by simp [f_Model_goesOn_L12])
  | succ n ih =>
  intro x2 I J h
  unfold f_Model_goesOn_L12 at h
  refine wp_iload_n X dX11_goesOn_12 2 rfl ?_
  refine wp_aload_n X dX11_goesOn_13 0 rfl ?_
  refine gf_X11_36 (o' := 186) X sh_177 rfl dX11_goesOn_14 ?_
  refine wp_bipush X dX11_goesOn_17 bi_16 ?_
  obtain ⟨hb19, h⟩ := h
  refine wp_iald X sh_186 hb19 dX11_goesOn_19 ?_
  refine wp_icmp_ge (tgt := 95) X dX11_goesOn_20 (by decide) (fun hc => ?_) (fun hc => ?_)
  · have h := ite_t h hc
    refine wp_sub X [0, 1] rfl ?_
    exact hk95 _ _ h
  · have h := ite_f h hc
    refine wp_aload_n X dX11_goesOn_23 0 rfl ?_
    refine wp_aload_n X dX11_goesOn_24 0 rfl ?_
    refine gf_X11_123 (o' := 215) X sh_177 rfl dX11_goesOn_25 ?_
    refine wp_iload_n X dX11_goesOn_28 1 rfl ?_
    obtain ⟨hb29, h⟩ := h
    refine wp_lald X sh_215 hb29 dX11_goesOn_29 ?_
    refine wp_iload_n X dX11_goesOn_30 2 rfl ?_
    refine wp_lconst X dX11_goesOn_31 lc_1 ?_
    refine wp_iconst X dX11_goesOn_32 ic_0 ?_
    refine cv_Model_taught X dX11_goesOn_33 ml_X11_363  h (Nat.le_of_ble_eq_true rfl) (by decide) (fun r33 I33 J33 h => ?_)
    refine wp_bipush X dX11_goesOn_36 bi_8 ?_
    refine wp_icmp_eq (tgt := 89) X dX11_goesOn_38 (by decide) (fun hc => ?_) (fun hc => ?_)
    · have h := ite_t h hc
      exact w_Model_goesOn_b89 X Y ih h
    · have h := ite_f h hc
      refine wp_aload_n X dX11_goesOn_41 0 rfl ?_
      refine wp_aload_n X dX11_goesOn_42 0 rfl ?_
      refine gf_X11_123 (o' := 215) X sh_177 rfl dX11_goesOn_43 ?_
      refine wp_iload_n X dX11_goesOn_46 1 rfl ?_
      obtain ⟨hb47, h⟩ := h
      refine wp_lald X sh_215 hb47 dX11_goesOn_47 ?_
      refine wp_iload_n X dX11_goesOn_48 2 rfl ?_
      refine cv_Model_likeAhead X dX11_goesOn_49 ml_X11_374  h (Nat.le_of_ble_eq_true rfl) (by decide) (fun r49 I49 J49 h => ?_)
      refine wp_if_ge (tgt := 89) X dX11_goesOn_52 (by decide) (fun hc => ?_) (fun hc => ?_)
      · have h := ite_t h hc
        exact w_Model_goesOn_b89 X Y ih h
      · have h := ite_f h hc
        exact hk55 _ _ _ h

set_option maxRecDepth 100000 in
set_option maxHeartbeats 4000000 in
theorem w_Model_goesOn_L2 {Γ : Ctx} {Q : Int32 → MI → MJ → Prop}  {k55 : Int32 → Int32 → MI → MJ → Prop} {k101 : MI → MJ → Prop} (X : Cx Γ cX11_goesOn 3 RX11 6) (Y : Rt Γ (Pi Q) (Option.some Jvm.ClassFile.FieldType.boolean))  (hk55 : ∀ (x1 : Int32) (x2 : Int32) (I : MI) (J : MJ), k55 x1 x2 I J → Wp Γ 3 55 [(0, .ref (ad Γ 177)), (1, .int x1), (2, .int x2)] [] I J) (hk101 : ∀ (I : MI) (J : MJ), k101 I J → Wp Γ 3 101 [] [] I J) : ∀ (n : Nat) (x1 : Int32) (I : MI) (J : MJ), f_Model_goesOn_L2 k55 k101 n x1 I J → Wp Γ 3 2 [(0, .ref (ad Γ 177)), (1, .int x1)] [] I J := by
  intro n
  induction n with
  | zero => intro x1 I J h; exact absurd h (by simp [f_Model_goesOn_L2])
  | succ n ih =>
  intro x1 I J h
  unfold f_Model_goesOn_L2 at h
  refine wp_iload_n X dX11_goesOn_2 1 rfl ?_
  refine wp_aload_n X dX11_goesOn_3 0 rfl ?_
  refine gf_X11_367 X sh_177 dX11_goesOn_4 ?_
  refine wp_icmp_ge (tgt := 101) X dX11_goesOn_7 (by decide) (fun hc => ?_) (fun hc => ?_)
  · have h := ite_t h hc
    refine wp_sub X [] rfl ?_
    exact hk101 _ _ h
  · have h := ite_f h hc
    refine wp_iconst X dX11_goesOn_10 ic_0 ?_
    refine wp_istore_n (L' := [(2, .int 0), (0, .ref (ad Γ 177)), (1, .int x1)]) X dX11_goesOn_11 rfl (by decide) rfl ?_
    obtain ⟨n, h⟩ := h
    refine wp_sub X [1, 2, 0] rfl ?_
    refine w_Model_goesOn_L12 X Y  ?_ ?_ n _ _ _ h
    · intro z55_x2 I J h
      exact hk55 _ _ _ _ h
    · intro I J h
      obtain ⟨t95, et95⟩ : ∃ y : Int32, y = x1 + 1 := ⟨_, rfl⟩
      have h := h t95 et95
      refine wp_iinc (L' := [(1, .int t95), (0, .ref (ad Γ 177))]) X dX11_goesOn_95 1 rfl (ii_1 et95) (by decide) rfl ?_
      refine wp_goto (tgt := 2) X dX11_goesOn_98 (by decide) ?_
      refine wp_sub X [1, 0] rfl ?_
      exact ih _ _ _ h

set_option maxRecDepth 100000 in
set_option maxHeartbeats 4000000 in
theorem w_Model_goesOn_b0 {Γ : Ctx} {Q : Int32 → MI → MJ → Prop}   (X : Cx Γ cX11_goesOn 3 RX11 6) (Y : Rt Γ (Pi Q) (Option.some Jvm.ClassFile.FieldType.boolean))   {I : MI} {J : MJ} (h : f_Model_goesOn  I J Q) : Wp Γ 3 0 [(0, .ref (ad Γ 177))] [] I J := by
  unfold f_Model_goesOn at h
  refine wp_iconst X dX11_goesOn_0 ic_0 ?_
  refine wp_istore_n (L' := [(1, .int 0), (0, .ref (ad Γ 177))]) X dX11_goesOn_1 rfl (by decide) rfl ?_
  obtain ⟨n, h⟩ := h
  refine wp_sub X [1, 0] rfl ?_
  refine w_Model_goesOn_L2 X Y  ?_ ?_ n _ _ _ h
  · intro z55_x1 z55_x2 I J h
    refine wp_aload_n X dX11_goesOn_55 0 rfl ?_
    refine gf_X11_123 (o' := 215) X sh_177 rfl dX11_goesOn_56 ?_
    refine wp_aload_n X dX11_goesOn_59 0 rfl ?_
    refine gf_X11_367 X sh_177 dX11_goesOn_60 ?_
    refine wp_ldc2 X kl_X11_197 dX11_goesOn_63 ?_
    refine wp_aload_n X dX11_goesOn_66 0 rfl ?_
    refine gf_X11_123 (o' := 215) X sh_177 rfl dX11_goesOn_67 ?_
    refine wp_iload_n X dX11_goesOn_70 1 rfl ?_
    obtain ⟨hb71, h⟩ := h
    refine wp_lald X sh_215 hb71 dX11_goesOn_71 ?_
    refine wp_lmul X dX11_goesOn_72 ?_
    refine wp_iload_n X dX11_goesOn_73 2 rfl ?_
    refine wp_i2l X dX11_goesOn_74 ?_
    refine wp_ladd X dX11_goesOn_75 ?_
    obtain ⟨hb76, h⟩ := h
    refine wp_last X sh_215 hb76 dX11_goesOn_76 ?_
    refine wp_memJ (fun J76 eJ76 => ?_)
    have h := h J76 eJ76
    refine wp_aload_n X dX11_goesOn_77 0 rfl ?_
    refine wp_dup X dX11_goesOn_78 rfl ?_
    refine gf_X11_367 X sh_177 dX11_goesOn_79 ?_
    refine wp_iconst X dX11_goesOn_82 ic_1 ?_
    refine wp_iadd X dX11_goesOn_83 ?_
    refine pf_X11_367 X sh_177 dX11_goesOn_84 (fun I84 eI84 => ?_)
    have h := h I84 eI84
    refine wp_iconst X dX11_goesOn_87 ic_1 ?_
    exact wp_zret X Y dX11_goesOn_88 (by decide) ⟨_, rfl, h⟩
  · intro I J h
    refine wp_iconst X dX11_goesOn_101 ic_0 ?_
    exact wp_zret X Y dX11_goesOn_102 (by decide) ⟨_, rfl, h⟩

theorem c_Model_goesOn {l : Launch} {g : GE} (hg : Inj g) {I : MI} {J : MJ} {Q : Int32 → MI → MJ → Prop}   (h : f_Model_goesOn  I J Q) : Cm l g yX11_goesOn cX11_goesOn 3 (Option.some Jvm.ClassFile.FieldType.boolean) 6 [.ref (g.1 177)] I J (Pi Q) := by
  refine Cm.of (As := fun ad => [.ref (ad 177)]) hg pn_X11 (Nat.le_of_ble_eq_true rfl) ?_
  exact (fun Γ _ _ X Y => w_Model_goesOn_b0 X Y  h)
theorem cv_Model_goesOn {Γ : Ctx} {cc : ByteArray} {nL d pc index : Nat} {own : String} {L : List (Nat × Value)} {rest : List Value} {I : MI} {J : MJ} {Q : Int32 → MI → MJ → Prop}  (X : Cx Γ cc nL own d) (hd : decode cc pc = .ok (.invokevirtual index, 3)) (hlink : Cond.methodLink own index yX11_goesOn ∈ TT)  (h : f_Model_goesOn  I J Q) (hrest : (rest.map fun v => v.category).sum ≤ 8) (hdd : 6 + 1 ≤ d) (kk : ∀ (r : Int32) (I' : MI) (J' : MJ), Q r I' J' → Wp Γ nL (pc + 3) L (.int r :: rest) I' J') : Wp Γ nL pc L (.ref (ad Γ 177) :: rest) I J :=
  wp_callV (As := []) (rest := rest) (T := TX11) (N := 62) X hd hlink mv_X11_goesOn sh_177 (by decide) rfl (c_Model_goesOn X.inj  h) rfl rfl hrest hdd (fun v I' J' hv => by obtain ⟨r, rfl, hq⟩ := hv; exact kk r I' J' hq)
theorem dX11_guessed_0 : decode cX11_guessed 0 = .ok (.iconst 1, 1) := by decide +kernel
theorem dX11_guessed_1 : decode cX11_guessed 1 = .ok (.istore_n 1, 1) := by decide +kernel
theorem dX11_guessed_2 : decode cX11_guessed 2 = .ok (.iconst 0, 1) := by decide +kernel
theorem dX11_guessed_3 : decode cX11_guessed 3 = .ok (.istore_n 2, 1) := by decide +kernel
theorem dX11_guessed_4 : decode cX11_guessed 4 = .ok (.iload_n 1, 1) := by decide +kernel
theorem dX11_guessed_5 : decode cX11_guessed 5 = .ok (.ifCond .eq 20, 3) := by decide +kernel
theorem dX11_guessed_8 : decode cX11_guessed 8 = .ok (.iload_n 2, 1) := by decide +kernel
theorem dX11_guessed_9 : decode cX11_guessed 9 = .ok (.bipush 32, 2) := by decide +kernel
theorem dX11_guessed_11 : decode cX11_guessed 11 = .ok (.if_icmp .ge 14, 3) := by decide +kernel
theorem dX11_guessed_14 : decode cX11_guessed 14 = .ok (.aload_n 0, 1) := by decide +kernel
theorem dX11_guessed_15 : decode cX11_guessed 15 = .ok (.invokevirtual 378, 3) := by decide +kernel
theorem dX11_guessed_18 : decode cX11_guessed 18 = .ok (.istore_n 1, 1) := by decide +kernel
theorem dX11_guessed_19 : decode cX11_guessed 19 = .ok (.iinc 2 1, 3) := by decide +kernel
theorem dX11_guessed_22 : decode cX11_guessed 22 = .ok (.goto (-18), 3) := by decide +kernel
theorem dX11_guessed_25 : decode cX11_guessed 25 = .ok (.aload_n 0, 1) := by decide +kernel
theorem dX11_guessed_26 : decode cX11_guessed 26 = .ok (.bipush 17, 2) := by decide +kernel
theorem dX11_guessed_28 : decode cX11_guessed 28 = .ok (.iconst 0, 1) := by decide +kernel
theorem dX11_guessed_29 : decode cX11_guessed 29 = .ok (.aload_n 0, 1) := by decide +kernel
theorem dX11_guessed_30 : decode cX11_guessed 30 = .ok (.getfield 367, 3) := by decide +kernel
theorem dX11_guessed_33 : decode cX11_guessed 33 = .ok (.aload_n 0, 1) := by decide +kernel
theorem dX11_guessed_34 : decode cX11_guessed 34 = .ok (.getfield 36, 3) := by decide +kernel
theorem dX11_guessed_37 : decode cX11_guessed 37 = .ok (.bipush 16, 2) := by decide +kernel
theorem dX11_guessed_39 : decode cX11_guessed 39 = .ok (.iaload, 1) := by decide +kernel
theorem dX11_guessed_40 : decode cX11_guessed 40 = .ok (.invokevirtual 209, 3) := by decide +kernel
theorem dX11_guessed_43 : decode cX11_guessed 43 = .ok (.iconst 0, 1) := by decide +kernel
theorem dX11_guessed_44 : decode cX11_guessed 44 = .ok (.istore_n 2, 1) := by decide +kernel
theorem dX11_guessed_45 : decode cX11_guessed 45 = .ok (.iload_n 2, 1) := by decide +kernel
theorem dX11_guessed_46 : decode cX11_guessed 46 = .ok (.aload_n 0, 1) := by decide +kernel
theorem dX11_guessed_47 : decode cX11_guessed 47 = .ok (.getfield 367, 3) := by decide +kernel
theorem dX11_guessed_50 : decode cX11_guessed 50 = .ok (.if_icmp .ge 108, 3) := by decide +kernel
theorem dX11_guessed_53 : decode cX11_guessed 53 = .ok (.aload_n 0, 1) := by decide +kernel
theorem dX11_guessed_54 : decode cX11_guessed 54 = .ok (.getfield 39, 3) := by decide +kernel
theorem dX11_guessed_57 : decode cX11_guessed 57 = .ok (.sipush 238, 3) := by decide +kernel
theorem dX11_guessed_60 : decode cX11_guessed 60 = .ok (.iload_n 2, 1) := by decide +kernel
theorem dX11_guessed_61 : decode cX11_guessed 61 = .ok (.iadd, 1) := by decide +kernel
theorem dX11_guessed_62 : decode cX11_guessed 62 = .ok (.aload_n 0, 1) := by decide +kernel
theorem dX11_guessed_63 : decode cX11_guessed 63 = .ok (.aload_n 0, 1) := by decide +kernel
theorem dX11_guessed_64 : decode cX11_guessed 64 = .ok (.getfield 123, 3) := by decide +kernel
theorem dX11_guessed_67 : decode cX11_guessed 67 = .ok (.iload_n 2, 1) := by decide +kernel
theorem dX11_guessed_68 : decode cX11_guessed 68 = .ok (.laload, 1) := by decide +kernel
theorem dX11_guessed_69 : decode cX11_guessed 69 = .ok (.iconst (-1), 1) := by decide +kernel
theorem dX11_guessed_70 : decode cX11_guessed 70 = .ok (.lconst 1, 1) := by decide +kernel
theorem dX11_guessed_71 : decode cX11_guessed 71 = .ok (.iconst 0, 1) := by decide +kernel
theorem dX11_guessed_72 : decode cX11_guessed 72 = .ok (.invokevirtual 363, 3) := by decide +kernel
theorem dX11_guessed_75 : decode cX11_guessed 75 = .ok (.iastore, 1) := by decide +kernel
theorem dX11_guessed_76 : decode cX11_guessed 76 = .ok (.iconst 0, 1) := by decide +kernel
theorem dX11_guessed_77 : decode cX11_guessed 77 = .ok (.istore_n 3, 1) := by decide +kernel
theorem dX11_guessed_78 : decode cX11_guessed 78 = .ok (.iload_n 3, 1) := by decide +kernel
theorem dX11_guessed_79 : decode cX11_guessed 79 = .ok (.aload_n 0, 1) := by decide +kernel
theorem dX11_guessed_80 : decode cX11_guessed 80 = .ok (.getfield 36, 3) := by decide +kernel
theorem dX11_guessed_83 : decode cX11_guessed 83 = .ok (.bipush 16, 2) := by decide +kernel
theorem dX11_guessed_85 : decode cX11_guessed 85 = .ok (.iaload, 1) := by decide +kernel
theorem dX11_guessed_86 : decode cX11_guessed 86 = .ok (.if_icmp .ge 66, 3) := by decide +kernel
theorem dX11_guessed_89 : decode cX11_guessed 89 = .ok (.aload_n 0, 1) := by decide +kernel
theorem dX11_guessed_90 : decode cX11_guessed 90 = .ok (.aload_n 0, 1) := by decide +kernel
theorem dX11_guessed_91 : decode cX11_guessed 91 = .ok (.getfield 123, 3) := by decide +kernel
theorem dX11_guessed_94 : decode cX11_guessed 94 = .ok (.iload_n 2, 1) := by decide +kernel
theorem dX11_guessed_95 : decode cX11_guessed 95 = .ok (.laload, 1) := by decide +kernel
theorem dX11_guessed_96 : decode cX11_guessed 96 = .ok (.iload_n 3, 1) := by decide +kernel
theorem dX11_guessed_97 : decode cX11_guessed 97 = .ok (.lconst 1, 1) := by decide +kernel
theorem dX11_guessed_98 : decode cX11_guessed 98 = .ok (.iconst 0, 1) := by decide +kernel
theorem dX11_guessed_99 : decode cX11_guessed 99 = .ok (.invokevirtual 363, 3) := by decide +kernel
theorem dX11_guessed_102 : decode cX11_guessed 102 = .ok (.bipush 8, 2) := by decide +kernel
theorem dX11_guessed_104 : decode cX11_guessed 104 = .ok (.if_icmp .eq 7, 3) := by decide +kernel
theorem dX11_guessed_107 : decode cX11_guessed 107 = .ok (.iconst 1, 1) := by decide +kernel
theorem dX11_guessed_108 : decode cX11_guessed 108 = .ok (.goto 4, 3) := by decide +kernel
theorem dX11_guessed_111 : decode cX11_guessed 111 = .ok (.iconst 0, 1) := by decide +kernel
theorem dX11_guessed_112 : decode cX11_guessed 112 = .ok (.istore 4, 2) := by decide +kernel
theorem dX11_guessed_114 : decode cX11_guessed 114 = .ok (.aload_n 0, 1) := by decide +kernel
theorem dX11_guessed_115 : decode cX11_guessed 115 = .ok (.getfield 45, 3) := by decide +kernel
theorem dX11_guessed_118 : decode cX11_guessed 118 = .ok (.bipush 17, 2) := by decide +kernel
theorem dX11_guessed_120 : decode cX11_guessed 120 = .ok (.iload_n 2, 1) := by decide +kernel
theorem dX11_guessed_121 : decode cX11_guessed 121 = .ok (.iload_n 3, 1) := by decide +kernel
theorem dX11_guessed_122 : decode cX11_guessed 122 = .ok (.invokestatic 149, 3) := by decide +kernel
theorem dX11_guessed_125 : decode cX11_guessed 125 = .ok (.iload 4, 2) := by decide +kernel
theorem dX11_guessed_127 : decode cX11_guessed 127 = .ok (.ifCond .eq 17, 3) := by decide +kernel
theorem dX11_guessed_130 : decode cX11_guessed 130 = .ok (.aload_n 0, 1) := by decide +kernel
theorem dX11_guessed_131 : decode cX11_guessed 131 = .ok (.aload_n 0, 1) := by decide +kernel
theorem dX11_guessed_132 : decode cX11_guessed 132 = .ok (.getfield 123, 3) := by decide +kernel
theorem dX11_guessed_135 : decode cX11_guessed 135 = .ok (.iload_n 2, 1) := by decide +kernel
theorem dX11_guessed_136 : decode cX11_guessed 136 = .ok (.laload, 1) := by decide +kernel
theorem dX11_guessed_137 : decode cX11_guessed 137 = .ok (.iload_n 3, 1) := by decide +kernel
theorem dX11_guessed_138 : decode cX11_guessed 138 = .ok (.invokevirtual 374, 3) := by decide +kernel
theorem dX11_guessed_141 : decode cX11_guessed 141 = .ok (.goto 4, 3) := by decide +kernel
theorem dX11_guessed_144 : decode cX11_guessed 144 = .ok (.iconst (-1), 1) := by decide +kernel
theorem dX11_guessed_145 : decode cX11_guessed 145 = .ok (.iastore, 1) := by decide +kernel
theorem dX11_guessed_146 : decode cX11_guessed 146 = .ok (.iinc 3 1, 3) := by decide +kernel
theorem dX11_guessed_149 : decode cX11_guessed 149 = .ok (.goto (-71), 3) := by decide +kernel
theorem dX11_guessed_152 : decode cX11_guessed 152 = .ok (.iinc 2 1, 3) := by decide +kernel
theorem dX11_guessed_155 : decode cX11_guessed 155 = .ok (.goto (-110), 3) := by decide +kernel
theorem dX11_guessed_158 : decode cX11_guessed 158 = .ok (.aload_n 0, 1) := by decide +kernel
theorem dX11_guessed_159 : decode cX11_guessed 159 = .ok (.bipush 17, 2) := by decide +kernel
theorem dX11_guessed_161 : decode cX11_guessed 161 = .ok (.invokevirtual 216, 3) := by decide +kernel
theorem dX11_guessed_164 : decode cX11_guessed 164 = .ok (.aload_n 0, 1) := by decide +kernel
theorem dX11_guessed_165 : decode cX11_guessed 165 = .ok (.dup, 1) := by decide +kernel
theorem dX11_guessed_166 : decode cX11_guessed 166 = .ok (.getfield 382, 3) := by decide +kernel
theorem dX11_guessed_169 : decode cX11_guessed 169 = .ok (.iconst 1, 1) := by decide +kernel
theorem dX11_guessed_170 : decode cX11_guessed 170 = .ok (.iadd, 1) := by decide +kernel
theorem dX11_guessed_171 : decode cX11_guessed 171 = .ok (.putfield 382, 3) := by decide +kernel
theorem dX11_guessed_174 : decode cX11_guessed 174 = .ok (.aload_n 0, 1) := by decide +kernel
theorem dX11_guessed_175 : decode cX11_guessed 175 = .ok (.getfield 367, 3) := by decide +kernel
theorem dX11_guessed_178 : decode cX11_guessed 178 = .ok (.ireturn, 1) := by decide +kernel
def f_Model_guessed_b145 (x3 : Int32) (s1 : Int32) (s2 : Int32) (kh : Int32 → MI → MJ → Prop) (I : MI) (J : MJ) : Prop :=
  vp_in s1 1120 ∧ ∀ I145 : MI, I145 = sI I 189 (upd (I 189) s1.toNatClampNeg s2) → ∀ t146 : Int32, t146 = x3 + 1 → kh t146 I145 J
def f_Model_guessed_b112 (x2 : Int32) (x3 : Int32) (s0 : Int32) (kh : Int32 → MI → MJ → Prop) (I : MI) (J : MJ) : Prop :=
  f_Model_spot (17 : Int32) x2 x3 I J (fun r122 I122 J122 => (if s0 = 0 then f_Model_guessed_b145 x3 r122 (-1) kh I122 J122 else vp_in x2 32 ∧ f_Model_likeAhead (J122 215 x2.toNatClampNeg) x3 I122 J122 (fun r138 I138 J138 => f_Model_guessed_b145 x3 r122 r138 kh I138 J138)))
def f_Model_guessed_L78 (x2 : Int32) (k152 : MI → MJ → Prop) : Nat → Int32 → MI → MJ → Prop
  | 0, _, _, _ => False
  | nf78 + 1, x3, I, J =>
  vp_in 16 20 ∧ (if (I 186 (16 : Int32).toNatClampNeg) ≤ x3 then k152 I J else vp_in x2 32 ∧ f_Model_taught (J 215 x2.toNatClampNeg) x3 (1 : Int64) (0 : Int32) I J (fun r99 I99 J99 => (if r99 = 8 then f_Model_guessed_b112 x2 x3 0 (f_Model_guessed_L78 x2 k152 nf78) I99 J99 else f_Model_guessed_b112 x2 x3 1 (f_Model_guessed_L78 x2 k152 nf78) I99 J99)))
def f_Model_guessed_L45 (k158 : MI → MJ → Prop) : Nat → Int32 → MI → MJ → Prop
  | 0, _, _, _ => False
  | nf45 + 1, x2, I, J =>
  (if (I 177 53) ≤ x2 then k158 I J else vp_in x2 32 ∧ f_Model_taught (J 215 x2.toNatClampNeg) (-1 : Int32) (1 : Int64) (0 : Int32) I J (fun r72 I72 J72 => vp_in (238 + x2) 280 ∧ ∀ I75 : MI, I75 = sI I72 187 (upd (I72 187) (238 + x2).toNatClampNeg r72) → ∃ n, f_Model_guessed_L78 x2 (fun (I : MI) (J : MJ) => ∀ t152 : Int32, t152 = x2 + 1 → f_Model_guessed_L45 k158 nf45 t152 I J) n 0 I75 J72))
def f_Model_guessed_b25  (Q : Int32 → MI → MJ → Prop) (I : MI) (J : MJ) : Prop :=
  vp_in 16 20 ∧ f_Model_clear (17 : Int32) (0 : Int32) (I 177 53) (I 186 (16 : Int32).toNatClampNeg) I J (fun I40 J40 => ∃ n, f_Model_guessed_L45 (fun (I : MI) (J : MJ) => f_Model_name (17 : Int32) I J (fun I161 J161 => ∀ I171 : MI, I171 = sI I161 177 (upd (I161 177) 56 ((I161 177 56) + 1)) → Q (I171 177 53) I171 J161)) n 0 I40 J40)
def f_Model_guessed_L4 (k25 : MI → MJ → Prop) : Nat → Int32 → Int32 → MI → MJ → Prop
  | 0, _, _, _, _ => False
  | nf4 + 1, x1, x2, I, J =>
  (if x1 = 0 then k25 I J else (if 32 ≤ x2 then k25 I J else f_Model_goesOn I J (fun r15 I15 J15 => ∀ t19 : Int32, t19 = x2 + 1 → f_Model_guessed_L4 k25 nf4 r15 t19 I15 J15)))
def f_Model_guessed (I : MI) (J : MJ) (Q : Int32 → MI → MJ → Prop) : Prop :=
  ∃ n, f_Model_guessed_L4 (fun (I : MI) (J : MJ) => f_Model_guessed_b25 Q I J) n 1 0 I J
set_option maxRecDepth 100000 in
set_option maxHeartbeats 4000000 in
theorem w_Model_guessed_b145 {Γ : Ctx} {Q : Int32 → MI → MJ → Prop} {x2 : Int32} {x3 : Int32} {s1 : Int32} {s2 : Int32} {kh : Int32 → MI → MJ → Prop} (X : Cx Γ cX11_guessed 5 RX11 7) (Y : Rt Γ (Pi Q) (Option.some Jvm.ClassFile.FieldType.int))  (hkh : ∀ (x3 : Int32) (I : MI) (J : MJ), kh x3 I J → Wp Γ 5 78 [(0, .ref (ad Γ 177)), (2, .int x2), (3, .int x3)] [] I J) {I : MI} {J : MJ} (h : f_Model_guessed_b145 x3 s1 s2 kh I J) : Wp Γ 5 145 [(0, .ref (ad Γ 177)), (2, .int x2), (3, .int x3)] [.int s2, .int s1, .ref (ad Γ 189)] I J := by
  unfold f_Model_guessed_b145 at h
  obtain ⟨hb145, h⟩ := h
  refine wp_iast X sh_189 hb145 dX11_guessed_145 ?_
  refine wp_memI (fun I145 eI145 => ?_)
  have h := h I145 eI145
  obtain ⟨t146, et146⟩ : ∃ y : Int32, y = x3 + 1 := ⟨_, rfl⟩
  have h := h t146 et146
  refine wp_iinc (L' := [(3, .int t146), (0, .ref (ad Γ 177)), (2, .int x2)]) X dX11_guessed_146 2 rfl (ii_1 et146) (by decide) rfl ?_
  refine wp_goto (tgt := 78) X dX11_guessed_149 (by decide) ?_
  refine wp_sub X [1, 2, 0] rfl ?_
  exact hkh _ _ _ h

set_option maxRecDepth 100000 in
set_option maxHeartbeats 4000000 in
theorem w_Model_guessed_b112 {Γ : Ctx} {Q : Int32 → MI → MJ → Prop} {x2 : Int32} {x3 : Int32} {s0 : Int32} {kh : Int32 → MI → MJ → Prop} (X : Cx Γ cX11_guessed 5 RX11 7) (Y : Rt Γ (Pi Q) (Option.some Jvm.ClassFile.FieldType.int))  (hkh : ∀ (x3 : Int32) (I : MI) (J : MJ), kh x3 I J → Wp Γ 5 78 [(0, .ref (ad Γ 177)), (2, .int x2), (3, .int x3)] [] I J) {I : MI} {J : MJ} (h : f_Model_guessed_b112 x2 x3 s0 kh I J) : Wp Γ 5 112 [(0, .ref (ad Γ 177)), (2, .int x2), (3, .int x3)] [.int s0] I J := by
  unfold f_Model_guessed_b112 at h
  refine wp_istore (L' := [(4, .int s0), (0, .ref (ad Γ 177)), (2, .int x2), (3, .int x3)]) X dX11_guessed_112 (by decide) rfl ?_
  refine wp_aload_n X dX11_guessed_114 1 rfl ?_
  refine gf_X11_45 (o' := 189) X sh_177 rfl dX11_guessed_115 ?_
  refine wp_bipush X dX11_guessed_118 bi_17 ?_
  refine wp_iload_n X dX11_guessed_120 2 rfl ?_
  refine wp_iload_n X dX11_guessed_121 3 rfl ?_
  refine cs_Model_spot X dX11_guessed_122 ml_X11_149  h (Nat.le_of_ble_eq_true rfl) (by decide) (fun r122 I122 J122 h => ?_)
  refine wp_iload X dX11_guessed_125 0 rfl ?_
  refine wp_if_eq (tgt := 144) X dX11_guessed_127 (by decide) (fun hc => ?_) (fun hc => ?_)
  · have h := ite_t h hc
    refine wp_iconst X dX11_guessed_144 ic_m1 ?_
    refine wp_sub X [1, 2, 3] rfl ?_
    exact w_Model_guessed_b145 X Y hkh h
  · have h := ite_f h hc
    refine wp_aload_n X dX11_guessed_130 1 rfl ?_
    refine wp_aload_n X dX11_guessed_131 1 rfl ?_
    refine gf_X11_123 (o' := 215) X sh_177 rfl dX11_guessed_132 ?_
    refine wp_iload_n X dX11_guessed_135 2 rfl ?_
    obtain ⟨hb136, h⟩ := h
    refine wp_lald X sh_215 hb136 dX11_guessed_136 ?_
    refine wp_iload_n X dX11_guessed_137 3 rfl ?_
    refine cv_Model_likeAhead X dX11_guessed_138 ml_X11_374  h (Nat.le_of_ble_eq_true rfl) (by decide) (fun r138 I138 J138 h => ?_)
    refine wp_goto (tgt := 145) X dX11_guessed_141 (by decide) ?_
    refine wp_sub X [1, 2, 3] rfl ?_
    exact w_Model_guessed_b145 X Y hkh h

set_option maxRecDepth 100000 in
set_option maxHeartbeats 4000000 in
theorem w_Model_guessed_L78 {Γ : Ctx} {Q : Int32 → MI → MJ → Prop} {x2 : Int32} {k152 : MI → MJ → Prop} (X : Cx Γ cX11_guessed 5 RX11 7) (Y : Rt Γ (Pi Q) (Option.some Jvm.ClassFile.FieldType.int))  (hk152 : ∀ (I : MI) (J : MJ), k152 I J → Wp Γ 5 152 [(0, .ref (ad Γ 177)), (2, .int x2)] [] I J) : ∀ (n : Nat) (x3 : Int32) (I : MI) (J : MJ), f_Model_guessed_L78 x2 k152 n x3 I J → Wp Γ 5 78 [(0, .ref (ad Γ 177)), (2, .int x2), (3, .int x3)] [] I J := by
  intro n
  induction n with
  | zero => intro x3 I J h; exact absurd h (by simp [f_Model_guessed_L78])
  | succ n ih =>
  intro x3 I J h
  unfold f_Model_guessed_L78 at h
  refine wp_iload_n X dX11_guessed_78 2 rfl ?_
  refine wp_aload_n X dX11_guessed_79 0 rfl ?_
  refine gf_X11_36 (o' := 186) X sh_177 rfl dX11_guessed_80 ?_
  refine wp_bipush X dX11_guessed_83 bi_16 ?_
  obtain ⟨hb85, h⟩ := h
  refine wp_iald X sh_186 hb85 dX11_guessed_85 ?_
  refine wp_icmp_ge (tgt := 152) X dX11_guessed_86 (by decide) (fun hc => ?_) (fun hc => ?_)
  · have h := ite_t h hc
    refine wp_sub X [0, 1] rfl ?_
    exact hk152 _ _ h
  · have h := ite_f h hc
    refine wp_aload_n X dX11_guessed_89 0 rfl ?_
    refine wp_aload_n X dX11_guessed_90 0 rfl ?_
    refine gf_X11_123 (o' := 215) X sh_177 rfl dX11_guessed_91 ?_
    refine wp_iload_n X dX11_guessed_94 1 rfl ?_
    obtain ⟨hb95, h⟩ := h
    refine wp_lald X sh_215 hb95 dX11_guessed_95 ?_
    refine wp_iload_n X dX11_guessed_96 2 rfl ?_
    refine wp_lconst X dX11_guessed_97 lc_1 ?_
    refine wp_iconst X dX11_guessed_98 ic_0 ?_
    refine cv_Model_taught X dX11_guessed_99 ml_X11_363  h (Nat.le_of_ble_eq_true rfl) (by decide) (fun r99 I99 J99 h => ?_)
    refine wp_bipush X dX11_guessed_102 bi_8 ?_
    refine wp_icmp_eq (tgt := 111) X dX11_guessed_104 (by decide) (fun hc => ?_) (fun hc => ?_)
    · have h := ite_t h hc
      refine wp_iconst X dX11_guessed_111 ic_0 ?_
      exact w_Model_guessed_b112 X Y ih h
    · have h := ite_f h hc
      refine wp_iconst X dX11_guessed_107 ic_1 ?_
      refine wp_goto (tgt := 112) X dX11_guessed_108 (by decide) ?_
      exact w_Model_guessed_b112 X Y ih h

set_option maxRecDepth 100000 in
set_option maxHeartbeats 4000000 in
theorem w_Model_guessed_L45 {Γ : Ctx} {Q : Int32 → MI → MJ → Prop}  {k158 : MI → MJ → Prop} (X : Cx Γ cX11_guessed 5 RX11 7) (Y : Rt Γ (Pi Q) (Option.some Jvm.ClassFile.FieldType.int))  (hk158 : ∀ (I : MI) (J : MJ), k158 I J → Wp Γ 5 158 [(0, .ref (ad Γ 177))] [] I J) : ∀ (n : Nat) (x2 : Int32) (I : MI) (J : MJ), f_Model_guessed_L45 k158 n x2 I J → Wp Γ 5 45 [(0, .ref (ad Γ 177)), (2, .int x2)] [] I J := by
  intro n
  induction n with
  | zero => intro x2 I J h; exact absurd h (by simp [f_Model_guessed_L45])
  | succ n ih =>
  intro x2 I J h
  unfold f_Model_guessed_L45 at h
  refine wp_iload_n X dX11_guessed_45 1 rfl ?_
  refine wp_aload_n X dX11_guessed_46 0 rfl ?_
  refine gf_X11_367 X sh_177 dX11_guessed_47 ?_
  refine wp_icmp_ge (tgt := 158) X dX11_guessed_50 (by decide) (fun hc => ?_) (fun hc => ?_)
  · have h := ite_t h hc
    refine wp_sub X [0] rfl ?_
    exact hk158 _ _ h
  · have h := ite_f h hc
    refine wp_aload_n X dX11_guessed_53 0 rfl ?_
    refine gf_X11_39 (o' := 187) X sh_177 rfl dX11_guessed_54 ?_
    refine wp_sipush X dX11_guessed_57 si_238 ?_
    refine wp_iload_n X dX11_guessed_60 1 rfl ?_
    refine wp_iadd X dX11_guessed_61 ?_
    refine wp_aload_n X dX11_guessed_62 0 rfl ?_
    refine wp_aload_n X dX11_guessed_63 0 rfl ?_
    refine gf_X11_123 (o' := 215) X sh_177 rfl dX11_guessed_64 ?_
    refine wp_iload_n X dX11_guessed_67 1 rfl ?_
    obtain ⟨hb68, h⟩ := h
    refine wp_lald X sh_215 hb68 dX11_guessed_68 ?_
    refine wp_iconst X dX11_guessed_69 ic_m1 ?_
    refine wp_lconst X dX11_guessed_70 lc_1 ?_
    refine wp_iconst X dX11_guessed_71 ic_0 ?_
    refine cv_Model_taught X dX11_guessed_72 ml_X11_363  h (Nat.le_of_ble_eq_true rfl) (by decide) (fun r72 I72 J72 h => ?_)
    obtain ⟨hb75, h⟩ := h
    refine wp_iast X sh_187 hb75 dX11_guessed_75 ?_
    refine wp_memI (fun I75 eI75 => ?_)
    have h := h I75 eI75
    refine wp_iconst X dX11_guessed_76 ic_0 ?_
    refine wp_istore_n (L' := [(3, .int 0), (0, .ref (ad Γ 177)), (2, .int x2)]) X dX11_guessed_77 rfl (by decide) rfl ?_
    obtain ⟨n, h⟩ := h
    refine wp_sub X [1, 2, 0] rfl ?_
    refine w_Model_guessed_L78 X Y  ?_ n _ _ _ h
    · intro I J h
      obtain ⟨t152, et152⟩ : ∃ y : Int32, y = x2 + 1 := ⟨_, rfl⟩
      have h := h t152 et152
      refine wp_iinc (L' := [(2, .int t152), (0, .ref (ad Γ 177))]) X dX11_guessed_152 1 rfl (ii_1 et152) (by decide) rfl ?_
      refine wp_goto (tgt := 45) X dX11_guessed_155 (by decide) ?_
      refine wp_sub X [1, 0] rfl ?_
      exact ih _ _ _ h

set_option maxRecDepth 100000 in
set_option maxHeartbeats 4000000 in
theorem w_Model_guessed_b25 {Γ : Ctx} {Q : Int32 → MI → MJ → Prop}   (X : Cx Γ cX11_guessed 5 RX11 7) (Y : Rt Γ (Pi Q) (Option.some Jvm.ClassFile.FieldType.int))   {I : MI} {J : MJ} (h : f_Model_guessed_b25 Q I J) : Wp Γ 5 25 [(0, .ref (ad Γ 177))] [] I J := by
  unfold f_Model_guessed_b25 at h
  refine wp_aload_n X dX11_guessed_25 0 rfl ?_
  refine wp_bipush X dX11_guessed_26 bi_17 ?_
  refine wp_iconst X dX11_guessed_28 ic_0 ?_
  refine wp_aload_n X dX11_guessed_29 0 rfl ?_
  refine gf_X11_367 X sh_177 dX11_guessed_30 ?_
  refine wp_aload_n X dX11_guessed_33 0 rfl ?_
  refine gf_X11_36 (o' := 186) X sh_177 rfl dX11_guessed_34 ?_
  refine wp_bipush X dX11_guessed_37 bi_16 ?_
  obtain ⟨hb39, h⟩ := h
  refine wp_iald X sh_186 hb39 dX11_guessed_39 ?_
  refine cv_Model_clear X dX11_guessed_40 ml_X11_209  h (Nat.le_of_ble_eq_true rfl) (by decide) (fun I40 J40 h => ?_)
  refine wp_iconst X dX11_guessed_43 ic_0 ?_
  refine wp_istore_n (L' := [(2, .int 0), (0, .ref (ad Γ 177))]) X dX11_guessed_44 rfl (by decide) rfl ?_
  obtain ⟨n, h⟩ := h
  refine wp_sub X [1, 0] rfl ?_
  refine w_Model_guessed_L45 X Y  ?_ n _ _ _ h
  · intro I J h
    refine wp_aload_n X dX11_guessed_158 0 rfl ?_
    refine wp_bipush X dX11_guessed_159 bi_17 ?_
    refine cv_Model_name X dX11_guessed_161 ml_X11_216  h (Nat.le_of_ble_eq_true rfl) (by decide) (fun I161 J161 h => ?_)
    refine wp_aload_n X dX11_guessed_164 0 rfl ?_
    refine wp_dup X dX11_guessed_165 rfl ?_
    refine gf_X11_382 X sh_177 dX11_guessed_166 ?_
    refine wp_iconst X dX11_guessed_169 ic_1 ?_
    refine wp_iadd X dX11_guessed_170 ?_
    refine pf_X11_382 X sh_177 dX11_guessed_171 (fun I171 eI171 => ?_)
    have h := h I171 eI171
    refine wp_aload_n X dX11_guessed_174 0 rfl ?_
    refine gf_X11_367 X sh_177 dX11_guessed_175 ?_
    exact wp_iret X Y dX11_guessed_178 ⟨_, rfl, h⟩

set_option maxRecDepth 100000 in
set_option maxHeartbeats 4000000 in
theorem w_Model_guessed_L4 {Γ : Ctx} {Q : Int32 → MI → MJ → Prop}  {k25 : MI → MJ → Prop} (X : Cx Γ cX11_guessed 5 RX11 7) (Y : Rt Γ (Pi Q) (Option.some Jvm.ClassFile.FieldType.int))  (hk25 : ∀ (I : MI) (J : MJ), k25 I J → Wp Γ 5 25 [(0, .ref (ad Γ 177))] [] I J) : ∀ (n : Nat) (x1 : Int32) (x2 : Int32) (I : MI) (J : MJ), f_Model_guessed_L4 k25 n x1 x2 I J → Wp Γ 5 4 [(0, .ref (ad Γ 177)), (1, .int x1), (2, .int x2)] [] I J := by
  intro n
  induction n with
  | zero => intro x1 x2 I J h; exact absurd h (by simp [f_Model_guessed_L4])
  | succ n ih =>
  intro x1 x2 I J h
  unfold f_Model_guessed_L4 at h
  refine wp_iload_n X dX11_guessed_4 1 rfl ?_
  refine wp_if_eq (tgt := 25) X dX11_guessed_5 (by decide) (fun hc => ?_) (fun hc => ?_)
  · have h := ite_t h hc
    refine wp_sub X [0] rfl ?_
    exact hk25 _ _ h
  · have h := ite_f h hc
    refine wp_iload_n X dX11_guessed_8 2 rfl ?_
    refine wp_bipush X dX11_guessed_9 bi_32 ?_
    refine wp_icmp_ge (tgt := 25) X dX11_guessed_11 (by decide) (fun hc => ?_) (fun hc => ?_)
    · have h := ite_t h hc
      refine wp_sub X [0] rfl ?_
      exact hk25 _ _ h
    · have h := ite_f h hc
      refine wp_aload_n X dX11_guessed_14 0 rfl ?_
      refine cv_Model_goesOn X dX11_guessed_15 ml_X11_378  h (Nat.le_of_ble_eq_true rfl) (by decide) (fun r15 I15 J15 h => ?_)
      refine wp_istore_n (L' := [(1, .int r15), (0, .ref (ad Γ 177)), (2, .int x2)]) X dX11_guessed_18 rfl (by decide) rfl ?_
      obtain ⟨t19, et19⟩ : ∃ y : Int32, y = x2 + 1 := ⟨_, rfl⟩
      have h := h t19 et19
      refine wp_iinc (L' := [(2, .int t19), (1, .int r15), (0, .ref (ad Γ 177))]) X dX11_guessed_19 2 rfl (ii_1 et19) (by decide) rfl ?_
      refine wp_goto (tgt := 4) X dX11_guessed_22 (by decide) ?_
      refine wp_sub X [2, 1, 0] rfl ?_
      exact ih _ _ _ _ h

set_option maxRecDepth 100000 in
set_option maxHeartbeats 4000000 in
theorem w_Model_guessed_b0 {Γ : Ctx} {Q : Int32 → MI → MJ → Prop}   (X : Cx Γ cX11_guessed 5 RX11 7) (Y : Rt Γ (Pi Q) (Option.some Jvm.ClassFile.FieldType.int))   {I : MI} {J : MJ} (h : f_Model_guessed  I J Q) : Wp Γ 5 0 [(0, .ref (ad Γ 177))] [] I J := by
  unfold f_Model_guessed at h
  refine wp_iconst X dX11_guessed_0 ic_1 ?_
  refine wp_istore_n (L' := [(1, .int 1), (0, .ref (ad Γ 177))]) X dX11_guessed_1 rfl (by decide) rfl ?_
  refine wp_iconst X dX11_guessed_2 ic_0 ?_
  refine wp_istore_n (L' := [(2, .int 0), (1, .int 1), (0, .ref (ad Γ 177))]) X dX11_guessed_3 rfl (by decide) rfl ?_
  obtain ⟨n, h⟩ := h
  refine wp_sub X [2, 1, 0] rfl ?_
  refine w_Model_guessed_L4 X Y  ?_ n _ _ _ _ h
  · intro I J h
    exact w_Model_guessed_b25 X Y  h

theorem c_Model_guessed {l : Launch} {g : GE} (hg : Inj g) {I : MI} {J : MJ} {Q : Int32 → MI → MJ → Prop}   (h : f_Model_guessed  I J Q) : Cm l g yX11_guessed cX11_guessed 5 (Option.some Jvm.ClassFile.FieldType.int) 7 [.ref (g.1 177)] I J (Pi Q) := by
  refine Cm.of (As := fun ad => [.ref (ad 177)]) hg pn_X11 (Nat.le_of_ble_eq_true rfl) ?_
  exact (fun Γ _ _ X Y => w_Model_guessed_b0 X Y  h)
theorem cv_Model_guessed {Γ : Ctx} {cc : ByteArray} {nL d pc index : Nat} {own : String} {L : List (Nat × Value)} {rest : List Value} {I : MI} {J : MJ} {Q : Int32 → MI → MJ → Prop}  (X : Cx Γ cc nL own d) (hd : decode cc pc = .ok (.invokevirtual index, 3)) (hlink : Cond.methodLink own index yX11_guessed ∈ TT)  (h : f_Model_guessed  I J Q) (hrest : (rest.map fun v => v.category).sum ≤ 8) (hdd : 7 + 1 ≤ d) (kk : ∀ (r : Int32) (I' : MI) (J' : MJ), Q r I' J' → Wp Γ nL (pc + 3) L (.int r :: rest) I' J') : Wp Γ nL pc L (.ref (ad Γ 177) :: rest) I J :=
  wp_callV (As := []) (rest := rest) (T := TX11) (N := 62) X hd hlink mv_X11_guessed sh_177 (by decide) rfl (c_Model_guessed X.inj  h) rfl rfl hrest hdd (fun v I' J' hv => by obtain ⟨r, rfl, hq⟩ := hv; exact kk r I' J' hq)
theorem dX11_learn_0 : decode cX11_learn 0 = .ok (.iload_n 1, 1) := by decide +kernel
theorem dX11_learn_1 : decode cX11_learn 1 = .ok (.invokestatic 145, 3) := by decide +kernel
theorem dX11_learn_4 : decode cX11_learn 4 = .ok (.ifCond .ne 9, 3) := by decide +kernel
theorem dX11_learn_7 : decode cX11_learn 7 = .ok (.aload_n 0, 1) := by decide +kernel
theorem dX11_learn_8 : decode cX11_learn 8 = .ok (.iconst 2, 1) := by decide +kernel
theorem dX11_learn_9 : decode cX11_learn 9 = .ok (.invokevirtual 219, 3) := by decide +kernel
theorem dX11_learn_12 : decode cX11_learn 12 = .ok (.ireturn, 1) := by decide +kernel
theorem dX11_learn_13 : decode cX11_learn 13 = .ok (.aload_n 0, 1) := by decide +kernel
theorem dX11_learn_14 : decode cX11_learn 14 = .ok (.getfield 7, 3) := by decide +kernel
theorem dX11_learn_17 : decode cX11_learn 17 = .ok (.iload_n 1, 1) := by decide +kernel
theorem dX11_learn_18 : decode cX11_learn 18 = .ok (.iaload, 1) := by decide +kernel
theorem dX11_learn_19 : decode cX11_learn 19 = .ok (.ifCond .ge 9, 3) := by decide +kernel
theorem dX11_learn_22 : decode cX11_learn 22 = .ok (.aload_n 0, 1) := by decide +kernel
theorem dX11_learn_23 : decode cX11_learn 23 = .ok (.iconst 1, 1) := by decide +kernel
theorem dX11_learn_24 : decode cX11_learn 24 = .ok (.invokevirtual 219, 3) := by decide +kernel
theorem dX11_learn_27 : decode cX11_learn 27 = .ok (.ireturn, 1) := by decide +kernel
theorem dX11_learn_28 : decode cX11_learn 28 = .ok (.aload_n 0, 1) := by decide +kernel
theorem dX11_learn_29 : decode cX11_learn 29 = .ok (.getfield 7, 3) := by decide +kernel
theorem dX11_learn_32 : decode cX11_learn 32 = .ok (.iload_n 1, 1) := by decide +kernel
theorem dX11_learn_33 : decode cX11_learn 33 = .ok (.iaload, 1) := by decide +kernel
theorem dX11_learn_34 : decode cX11_learn 34 = .ok (.iconst 4, 1) := by decide +kernel
theorem dX11_learn_35 : decode cX11_learn 35 = .ok (.if_icmp .eq 19, 3) := by decide +kernel
theorem dX11_learn_38 : decode cX11_learn 38 = .ok (.aload_n 0, 1) := by decide +kernel
theorem dX11_learn_39 : decode cX11_learn 39 = .ok (.getfield 7, 3) := by decide +kernel
theorem dX11_learn_42 : decode cX11_learn 42 = .ok (.iload_n 1, 1) := by decide +kernel
theorem dX11_learn_43 : decode cX11_learn 43 = .ok (.iaload, 1) := by decide +kernel
theorem dX11_learn_44 : decode cX11_learn 44 = .ok (.iconst 5, 1) := by decide +kernel
theorem dX11_learn_45 : decode cX11_learn 45 = .ok (.if_icmp .eq 9, 3) := by decide +kernel
theorem dX11_learn_48 : decode cX11_learn 48 = .ok (.aload_n 0, 1) := by decide +kernel
theorem dX11_learn_49 : decode cX11_learn 49 = .ok (.iconst 4, 1) := by decide +kernel
theorem dX11_learn_50 : decode cX11_learn 50 = .ok (.invokevirtual 219, 3) := by decide +kernel
theorem dX11_learn_53 : decode cX11_learn 53 = .ok (.ireturn, 1) := by decide +kernel
theorem dX11_learn_54 : decode cX11_learn 54 = .ok (.aload_n 0, 1) := by decide +kernel
theorem dX11_learn_55 : decode cX11_learn 55 = .ok (.bipush 16, 2) := by decide +kernel
theorem dX11_learn_57 : decode cX11_learn 57 = .ok (.iload_n 1, 1) := by decide +kernel
theorem dX11_learn_58 : decode cX11_learn 58 = .ok (.invokevirtual 153, 3) := by decide +kernel
theorem dX11_learn_61 : decode cX11_learn 61 = .ok (.aload_n 0, 1) := by decide +kernel
theorem dX11_learn_62 : decode cX11_learn 62 = .ok (.aload_n 0, 1) := by decide +kernel
theorem dX11_learn_63 : decode cX11_learn 63 = .ok (.getfield 13, 3) := by decide +kernel
theorem dX11_learn_66 : decode cX11_learn 66 = .ok (.iload_n 1, 1) := by decide +kernel
theorem dX11_learn_67 : decode cX11_learn 67 = .ok (.iaload, 1) := by decide +kernel
theorem dX11_learn_68 : decode cX11_learn 68 = .ok (.putfield 385, 3) := by decide +kernel
theorem dX11_learn_71 : decode cX11_learn 71 = .ok (.aload_n 0, 1) := by decide +kernel
theorem dX11_learn_72 : decode cX11_learn 72 = .ok (.iconst 1, 1) := by decide +kernel
theorem dX11_learn_73 : decode cX11_learn 73 = .ok (.putfield 388, 3) := by decide +kernel
theorem dX11_learn_76 : decode cX11_learn 76 = .ok (.aload_n 0, 1) := by decide +kernel
theorem dX11_learn_77 : decode cX11_learn 77 = .ok (.getfield 123, 3) := by decide +kernel
theorem dX11_learn_80 : decode cX11_learn 80 = .ok (.iconst 0, 1) := by decide +kernel
theorem dX11_learn_81 : decode cX11_learn 81 = .ok (.lconst 1, 1) := by decide +kernel
theorem dX11_learn_82 : decode cX11_learn 82 = .ok (.lastore, 1) := by decide +kernel
theorem dX11_learn_83 : decode cX11_learn 83 = .ok (.aload_n 0, 1) := by decide +kernel
theorem dX11_learn_84 : decode cX11_learn 84 = .ok (.getfield 126, 3) := by decide +kernel
theorem dX11_learn_87 : decode cX11_learn 87 = .ok (.iconst 0, 1) := by decide +kernel
theorem dX11_learn_88 : decode cX11_learn 88 = .ok (.lconst 1, 1) := by decide +kernel
theorem dX11_learn_89 : decode cX11_learn 89 = .ok (.lastore, 1) := by decide +kernel
theorem dX11_learn_90 : decode cX11_learn 90 = .ok (.aload_n 0, 1) := by decide +kernel
theorem dX11_learn_91 : decode cX11_learn 91 = .ok (.iconst 1, 1) := by decide +kernel
theorem dX11_learn_92 : decode cX11_learn 92 = .ok (.putfield 367, 3) := by decide +kernel
theorem dX11_learn_95 : decode cX11_learn 95 = .ok (.aload_n 0, 1) := by decide +kernel
theorem dX11_learn_96 : decode cX11_learn 96 = .ok (.iconst 1, 1) := by decide +kernel
theorem dX11_learn_97 : decode cX11_learn 97 = .ok (.putfield 360, 3) := by decide +kernel
theorem dX11_learn_100 : decode cX11_learn 100 = .ok (.aload_n 0, 1) := by decide +kernel
theorem dX11_learn_101 : decode cX11_learn 101 = .ok (.lconst 0, 1) := by decide +kernel
theorem dX11_learn_102 : decode cX11_learn 102 = .ok (.putfield 392, 3) := by decide +kernel
theorem dX11_learn_105 : decode cX11_learn 105 = .ok (.aload_n 0, 1) := by decide +kernel
theorem dX11_learn_106 : decode cX11_learn 106 = .ok (.iconst 0, 1) := by decide +kernel
theorem dX11_learn_107 : decode cX11_learn 107 = .ok (.putfield 382, 3) := by decide +kernel
theorem dX11_learn_110 : decode cX11_learn 110 = .ok (.aload_n 0, 1) := by decide +kernel
theorem dX11_learn_111 : decode cX11_learn 111 = .ok (.aload_n 0, 1) := by decide +kernel
theorem dX11_learn_112 : decode cX11_learn 112 = .ok (.invokevirtual 396, 3) := by decide +kernel
theorem dX11_learn_115 : decode cX11_learn 115 = .ok (.invokevirtual 157, 3) := by decide +kernel
theorem dX11_learn_118 : decode cX11_learn 118 = .ok (.ireturn, 1) := by decide +kernel
def f_Model_learn_b54 (x1 : Int32) (Q : Int32 → MI → MJ → Prop) (I : MI) (J : MJ) : Prop :=
  f_Model_become (16 : Int32) x1 I J (fun I58 J58 => vp_in x1 16 ∧ ∀ I68 : MI, I68 = sI I58 177 (upd (I58 177) 50 (I58 179 x1.toNatClampNeg)) → ∀ I73 : MI, I73 = sI I68 177 (upd (I68 177) 49 1) → vp_in 0 32 ∧ ∀ J82 : MJ, J82 = sJ J58 215 (vp_updL (J58 215) (0 : Int32).toNatClampNeg 1) → vp_in 0 64 ∧ ∀ J89 : MJ, J89 = sJ J82 216 (vp_updL (J82 216) (0 : Int32).toNatClampNeg 1) → ∀ I92 : MI, I92 = sI I73 177 (upd (I73 177) 53 1) → ∀ I97 : MI, I97 = sI I92 177 (upd (I92 177) 54 1) → ∀ J102 : MJ, J102 = sJ J89 177 (vp_updL (J89 177) 55 0) → ∀ I107 : MI, I107 = sI I97 177 (upd (I97 177) 56 0) → f_Model_guessed I107 J102 (fun r112 I112 J112 => f_Model_done r112 I112 J112 (fun r115 I115 J115 => Q r115 I115 J115)))
def f_Model_learn (x1 : Int32) (I : MI) (J : MJ) (Q : Int32 → MI → MJ → Prop) : Prop :=
  f_Model_isPlace x1 I J (fun r1 I1 J1 => (if r1 = 0 then f_Model_refuse (2 : Int32) I1 J1 (fun r9 I9 J9 => Q r9 I9 J9) else vp_in x1 16 ∧ (if 0 ≤ (I1 178 x1.toNatClampNeg) then vp_in x1 16 ∧ (if (I1 178 x1.toNatClampNeg) = 4 then f_Model_learn_b54 x1 Q I1 J1 else vp_in x1 16 ∧ (if (I1 178 x1.toNatClampNeg) = 5 then f_Model_learn_b54 x1 Q I1 J1 else f_Model_refuse (4 : Int32) I1 J1 (fun r50 I50 J50 => Q r50 I50 J50))) else f_Model_refuse (1 : Int32) I1 J1 (fun r24 I24 J24 => Q r24 I24 J24))))
set_option maxRecDepth 100000 in
set_option maxHeartbeats 4000000 in
theorem w_Model_learn_b54 {Γ : Ctx} {Q : Int32 → MI → MJ → Prop} {x1 : Int32}  (X : Cx Γ cX11_learn 2 RX11 8) (Y : Rt Γ (Pi Q) (Option.some Jvm.ClassFile.FieldType.int))   {I : MI} {J : MJ} (h : f_Model_learn_b54 x1 Q I J) : Wp Γ 2 54 [(0, .ref (ad Γ 177)), (1, .int x1)] [] I J := by
  unfold f_Model_learn_b54 at h
  refine wp_aload_n X dX11_learn_54 0 rfl ?_
  refine wp_bipush X dX11_learn_55 bi_16 ?_
  refine wp_iload_n X dX11_learn_57 1 rfl ?_
  refine cv_Model_become X dX11_learn_58 ml_X11_153  h (Nat.le_of_ble_eq_true rfl) (by decide) (fun I58 J58 h => ?_)
  refine wp_aload_n X dX11_learn_61 0 rfl ?_
  refine wp_aload_n X dX11_learn_62 0 rfl ?_
  refine gf_X11_13 (o' := 179) X sh_177 rfl dX11_learn_63 ?_
  refine wp_iload_n X dX11_learn_66 1 rfl ?_
  obtain ⟨hb67, h⟩ := h
  refine wp_iald X sh_179 hb67 dX11_learn_67 ?_
  refine pf_X11_385 X sh_177 dX11_learn_68 (fun I68 eI68 => ?_)
  have h := h I68 eI68
  refine wp_aload_n X dX11_learn_71 0 rfl ?_
  refine wp_iconst X dX11_learn_72 ic_1 ?_
  refine pf_X11_388 X sh_177 (by decide) dX11_learn_73 (fun I73 eI73 => ?_)
  have h := h I73 eI73
  refine wp_aload_n X dX11_learn_76 0 rfl ?_
  refine gf_X11_123 (o' := 215) X sh_177 rfl dX11_learn_77 ?_
  refine wp_iconst X dX11_learn_80 ic_0 ?_
  refine wp_lconst X dX11_learn_81 lc_1 ?_
  obtain ⟨hb82, h⟩ := h
  refine wp_last X sh_215 hb82 dX11_learn_82 ?_
  refine wp_memJ (fun J82 eJ82 => ?_)
  have h := h J82 eJ82
  refine wp_aload_n X dX11_learn_83 0 rfl ?_
  refine gf_X11_126 (o' := 216) X sh_177 rfl dX11_learn_84 ?_
  refine wp_iconst X dX11_learn_87 ic_0 ?_
  refine wp_lconst X dX11_learn_88 lc_1 ?_
  obtain ⟨hb89, h⟩ := h
  refine wp_last X sh_216 hb89 dX11_learn_89 ?_
  refine wp_memJ (fun J89 eJ89 => ?_)
  have h := h J89 eJ89
  refine wp_aload_n X dX11_learn_90 0 rfl ?_
  refine wp_iconst X dX11_learn_91 ic_1 ?_
  refine pf_X11_367 X sh_177 dX11_learn_92 (fun I92 eI92 => ?_)
  have h := h I92 eI92
  refine wp_aload_n X dX11_learn_95 0 rfl ?_
  refine wp_iconst X dX11_learn_96 ic_1 ?_
  refine pf_X11_360 X sh_177 dX11_learn_97 (fun I97 eI97 => ?_)
  have h := h I97 eI97
  refine wp_aload_n X dX11_learn_100 0 rfl ?_
  refine wp_lconst X dX11_learn_101 lc_0 ?_
  refine pf_X11_392 X sh_177 dX11_learn_102 (fun J102 eJ102 => ?_)
  have h := h J102 eJ102
  refine wp_aload_n X dX11_learn_105 0 rfl ?_
  refine wp_iconst X dX11_learn_106 ic_0 ?_
  refine pf_X11_382 X sh_177 dX11_learn_107 (fun I107 eI107 => ?_)
  have h := h I107 eI107
  refine wp_aload_n X dX11_learn_110 0 rfl ?_
  refine wp_aload_n X dX11_learn_111 0 rfl ?_
  refine cv_Model_guessed X dX11_learn_112 ml_X11_396  h (Nat.le_of_ble_eq_true rfl) (by decide) (fun r112 I112 J112 h => ?_)
  refine cv_Model_done X dX11_learn_115 ml_X11_157  h (Nat.le_of_ble_eq_true rfl) (by decide) (fun r115 I115 J115 h => ?_)
  exact wp_iret X Y dX11_learn_118 ⟨_, rfl, h⟩

set_option maxRecDepth 100000 in
set_option maxHeartbeats 4000000 in
theorem w_Model_learn_b0 {Γ : Ctx} {Q : Int32 → MI → MJ → Prop} {x1 : Int32}  (X : Cx Γ cX11_learn 2 RX11 8) (Y : Rt Γ (Pi Q) (Option.some Jvm.ClassFile.FieldType.int))   {I : MI} {J : MJ} (h : f_Model_learn x1 I J Q) : Wp Γ 2 0 [(0, .ref (ad Γ 177)), (1, .int x1)] [] I J := by
  unfold f_Model_learn at h
  refine wp_iload_n X dX11_learn_0 1 rfl ?_
  refine cs_Model_isPlace X dX11_learn_1 ml_X11_145  h (Nat.le_of_ble_eq_true rfl) (by decide) (fun r1 I1 J1 h => ?_)
  refine wp_if_ne (tgt := 13) X dX11_learn_4 (by decide) (fun hc => ?_) (fun hc => ?_)
  · have h := ite_f h hc
    refine wp_aload_n X dX11_learn_13 0 rfl ?_
    refine gf_X11_7 (o' := 178) X sh_177 rfl dX11_learn_14 ?_
    refine wp_iload_n X dX11_learn_17 1 rfl ?_
    obtain ⟨hb18, h⟩ := h
    refine wp_iald X sh_178 hb18 dX11_learn_18 ?_
    refine wp_if_ge (tgt := 28) X dX11_learn_19 (by decide) (fun hc => ?_) (fun hc => ?_)
    · have h := ite_t h hc
      refine wp_aload_n X dX11_learn_28 0 rfl ?_
      refine gf_X11_7 (o' := 178) X sh_177 rfl dX11_learn_29 ?_
      refine wp_iload_n X dX11_learn_32 1 rfl ?_
      obtain ⟨hb33, h⟩ := h
      refine wp_iald X sh_178 hb33 dX11_learn_33 ?_
      refine wp_iconst X dX11_learn_34 ic_4 ?_
      refine wp_icmp_eq (tgt := 54) X dX11_learn_35 (by decide) (fun hc => ?_) (fun hc => ?_)
      · have h := ite_t h hc
        exact w_Model_learn_b54 X Y  h
      · have h := ite_f h hc
        refine wp_aload_n X dX11_learn_38 0 rfl ?_
        refine gf_X11_7 (o' := 178) X sh_177 rfl dX11_learn_39 ?_
        refine wp_iload_n X dX11_learn_42 1 rfl ?_
        obtain ⟨hb43, h⟩ := h
        refine wp_iald X sh_178 hb43 dX11_learn_43 ?_
        refine wp_iconst X dX11_learn_44 ic_5 ?_
        refine wp_icmp_eq (tgt := 54) X dX11_learn_45 (by decide) (fun hc => ?_) (fun hc => ?_)
        · have h := ite_t h hc
          exact w_Model_learn_b54 X Y  h
        · have h := ite_f h hc
          refine wp_aload_n X dX11_learn_48 0 rfl ?_
          refine wp_iconst X dX11_learn_49 ic_4 ?_
          refine cv_Model_refuse X dX11_learn_50 ml_X11_219  h (Nat.le_of_ble_eq_true rfl) (by decide) (fun r50 I50 J50 h => ?_)
          exact wp_iret X Y dX11_learn_53 ⟨_, rfl, h⟩
    · have h := ite_f h hc
      refine wp_aload_n X dX11_learn_22 0 rfl ?_
      refine wp_iconst X dX11_learn_23 ic_1 ?_
      refine cv_Model_refuse X dX11_learn_24 ml_X11_219  h (Nat.le_of_ble_eq_true rfl) (by decide) (fun r24 I24 J24 h => ?_)
      exact wp_iret X Y dX11_learn_27 ⟨_, rfl, h⟩
  · have h := ite_t h hc
    refine wp_aload_n X dX11_learn_7 0 rfl ?_
    refine wp_iconst X dX11_learn_8 ic_2 ?_
    refine cv_Model_refuse X dX11_learn_9 ml_X11_219  h (Nat.le_of_ble_eq_true rfl) (by decide) (fun r9 I9 J9 h => ?_)
    exact wp_iret X Y dX11_learn_12 ⟨_, rfl, h⟩

theorem c_Model_learn {l : Launch} {g : GE} (hg : Inj g) {I : MI} {J : MJ} {Q : Int32 → MI → MJ → Prop} {x1 : Int32}  (h : f_Model_learn x1 I J Q) : Cm l g yX11_learn cX11_learn 2 (Option.some Jvm.ClassFile.FieldType.int) 8 [.ref (g.1 177), .int x1] I J (Pi Q) := by
  refine Cm.of (As := fun ad => [.ref (ad 177), .int x1]) hg pn_X11 (Nat.le_of_ble_eq_true rfl) ?_
  exact (fun Γ _ _ X Y => w_Model_learn_b0 X Y  h)
theorem cv_Model_learn {Γ : Ctx} {cc : ByteArray} {nL d pc index : Nat} {own : String} {L : List (Nat × Value)} {rest : List Value} {I : MI} {J : MJ} {Q : Int32 → MI → MJ → Prop} {x1 : Int32} (X : Cx Γ cc nL own d) (hd : decode cc pc = .ok (.invokevirtual index, 3)) (hlink : Cond.methodLink own index yX11_learn ∈ TT)  (h : f_Model_learn x1 I J Q) (hrest : (rest.map fun v => v.category).sum ≤ 8) (hdd : 8 + 1 ≤ d) (kk : ∀ (r : Int32) (I' : MI) (J' : MJ), Q r I' J' → Wp Γ nL (pc + 3) L (.int r :: rest) I' J') : Wp Γ nL pc L (.int x1 :: .ref (ad Γ 177) :: rest) I J :=
  wp_callV (As := [.int x1]) (rest := rest) (T := TX11) (N := 62) X hd hlink mv_X11_learn sh_177 (by decide) rfl (c_Model_learn X.inj  h) rfl rfl hrest hdd (fun v I' J' hv => by obtain ⟨r, rfl, hq⟩ := hv; exact kk r I' J' hq)
theorem dX11_valueOf_0 : decode cX11_valueOf 0 = .ok (.aload_n 0, 1) := by decide +kernel
theorem dX11_valueOf_1 : decode cX11_valueOf 1 = .ok (.invokevirtual 183, 3) := by decide +kernel
theorem dX11_valueOf_4 : decode cX11_valueOf 4 = .ok (.aload_n 0, 1) := by decide +kernel
theorem dX11_valueOf_5 : decode cX11_valueOf 5 = .ok (.bipush 17, 2) := by decide +kernel
theorem dX11_valueOf_7 : decode cX11_valueOf 7 = .ok (.lload_n 1, 1) := by decide +kernel
theorem dX11_valueOf_8 : decode cX11_valueOf 8 = .ok (.iconst 0, 1) := by decide +kernel
theorem dX11_valueOf_9 : decode cX11_valueOf 9 = .ok (.iload_n 3, 1) := by decide +kernel
theorem dX11_valueOf_10 : decode cX11_valueOf 10 = .ok (.invokevirtual 186, 3) := by decide +kernel
theorem dX11_valueOf_13 : decode cX11_valueOf 13 = .ok (.ifCond .ne 6, 3) := by decide +kernel
theorem dX11_valueOf_16 : decode cX11_valueOf 16 = .ok (.bipush 8, 2) := by decide +kernel
theorem dX11_valueOf_18 : decode cX11_valueOf 18 = .ok (.ireturn, 1) := by decide +kernel
theorem dX11_valueOf_19 : decode cX11_valueOf 19 = .ok (.aload_n 0, 1) := by decide +kernel
theorem dX11_valueOf_20 : decode cX11_valueOf 20 = .ok (.aload_n 0, 1) := by decide +kernel
theorem dX11_valueOf_21 : decode cX11_valueOf 21 = .ok (.getfield 123, 3) := by decide +kernel
theorem dX11_valueOf_24 : decode cX11_valueOf 24 = .ok (.aload_n 0, 1) := by decide +kernel
theorem dX11_valueOf_25 : decode cX11_valueOf 25 = .ok (.getfield 165, 3) := by decide +kernel
theorem dX11_valueOf_28 : decode cX11_valueOf 28 = .ok (.laload, 1) := by decide +kernel
theorem dX11_valueOf_29 : decode cX11_valueOf 29 = .ok (.iconst (-1), 1) := by decide +kernel
theorem dX11_valueOf_30 : decode cX11_valueOf 30 = .ok (.lload_n 1, 1) := by decide +kernel
theorem dX11_valueOf_31 : decode cX11_valueOf 31 = .ok (.iload_n 3, 1) := by decide +kernel
theorem dX11_valueOf_32 : decode cX11_valueOf 32 = .ok (.invokevirtual 363, 3) := by decide +kernel
theorem dX11_valueOf_35 : decode cX11_valueOf 35 = .ok (.ireturn, 1) := by decide +kernel
def f_Model_valueOf (x1 : Int64) (x3 : Int32) (I : MI) (J : MJ) (Q : Int32 → MI → MJ → Prop) : Prop :=
  f_Model_begin I J (fun I1 J1 => f_Model_goAll (17 : Int32) x1 (0 : Int32) x3 I1 J1 (fun r10 I10 J10 => (if r10 = 0 then Q 8 I10 J10 else vp_in (I10 177 14) 32 ∧ f_Model_taught (J10 215 (I10 177 14).toNatClampNeg) (-1 : Int32) x1 x3 I10 J10 (fun r32 I32 J32 => Q r32 I32 J32))))
set_option maxRecDepth 100000 in
set_option maxHeartbeats 4000000 in
theorem w_Model_valueOf_b0 {Γ : Ctx} {Q : Int32 → MI → MJ → Prop} {x1 : Int64} {x3 : Int32}  (X : Cx Γ cX11_valueOf 4 RX11 4) (Y : Rt Γ (Pi Q) (Option.some Jvm.ClassFile.FieldType.int))   {I : MI} {J : MJ} (h : f_Model_valueOf x1 x3 I J Q) : Wp Γ 4 0 [(0, .ref (ad Γ 177)), (1, .long x1), (3, .int x3)] [] I J := by
  unfold f_Model_valueOf at h
  refine wp_aload_n X dX11_valueOf_0 0 rfl ?_
  refine cv_Model_begin X dX11_valueOf_1 ml_X11_183  h (Nat.le_of_ble_eq_true rfl) (by decide) (fun I1 J1 h => ?_)
  refine wp_aload_n X dX11_valueOf_4 0 rfl ?_
  refine wp_bipush X dX11_valueOf_5 bi_17 ?_
  refine wp_lload_n X dX11_valueOf_7 1 rfl ?_
  refine wp_iconst X dX11_valueOf_8 ic_0 ?_
  refine wp_iload_n X dX11_valueOf_9 2 rfl ?_
  refine cv_Model_goAll X dX11_valueOf_10 ml_X11_186  h (Nat.le_of_ble_eq_true rfl) (by decide) (fun r10 I10 J10 h => ?_)
  refine wp_if_ne (tgt := 19) X dX11_valueOf_13 (by decide) (fun hc => ?_) (fun hc => ?_)
  · have h := ite_f h hc
    refine wp_aload_n X dX11_valueOf_19 0 rfl ?_
    refine wp_aload_n X dX11_valueOf_20 0 rfl ?_
    refine gf_X11_123 (o' := 215) X sh_177 rfl dX11_valueOf_21 ?_
    refine wp_aload_n X dX11_valueOf_24 0 rfl ?_
    refine gf_X11_165 X sh_177 dX11_valueOf_25 ?_
    obtain ⟨hb28, h⟩ := h
    refine wp_lald X sh_215 hb28 dX11_valueOf_28 ?_
    refine wp_iconst X dX11_valueOf_29 ic_m1 ?_
    refine wp_lload_n X dX11_valueOf_30 1 rfl ?_
    refine wp_iload_n X dX11_valueOf_31 2 rfl ?_
    refine cv_Model_taught X dX11_valueOf_32 ml_X11_363  h (Nat.le_of_ble_eq_true rfl) (by decide) (fun r32 I32 J32 h => ?_)
    exact wp_iret X Y dX11_valueOf_35 ⟨_, rfl, h⟩
  · have h := ite_t h hc
    refine wp_bipush X dX11_valueOf_16 bi_8 ?_
    exact wp_iret X Y dX11_valueOf_18 ⟨_, rfl, h⟩

theorem c_Model_valueOf {l : Launch} {g : GE} (hg : Inj g) {I : MI} {J : MJ} {Q : Int32 → MI → MJ → Prop} {x1 : Int64} {x3 : Int32}  (h : f_Model_valueOf x1 x3 I J Q) : Cm l g yX11_valueOf cX11_valueOf 4 (Option.some Jvm.ClassFile.FieldType.int) 4 [.ref (g.1 177), .long x1, .int x3] I J (Pi Q) := by
  refine Cm.of (As := fun ad => [.ref (ad 177), .long x1, .int x3]) hg pn_X11 (Nat.le_of_ble_eq_true rfl) ?_
  exact (fun Γ _ _ X Y => w_Model_valueOf_b0 X Y  h)
theorem cv_Model_valueOf {Γ : Ctx} {cc : ByteArray} {nL d pc index : Nat} {own : String} {L : List (Nat × Value)} {rest : List Value} {I : MI} {J : MJ} {Q : Int32 → MI → MJ → Prop} {x1 : Int64} {x3 : Int32} (X : Cx Γ cc nL own d) (hd : decode cc pc = .ok (.invokevirtual index, 3)) (hlink : Cond.methodLink own index yX11_valueOf ∈ TT)  (h : f_Model_valueOf x1 x3 I J Q) (hrest : (rest.map fun v => v.category).sum ≤ 8) (hdd : 4 + 1 ≤ d) (kk : ∀ (r : Int32) (I' : MI) (J' : MJ), Q r I' J' → Wp Γ nL (pc + 3) L (.int r :: rest) I' J') : Wp Γ nL pc L (.int x3 :: .long x1 :: .ref (ad Γ 177) :: rest) I J :=
  wp_callV (As := [.long x1, .int x3]) (rest := rest) (T := TX11) (N := 62) X hd hlink mv_X11_valueOf sh_177 (by decide) rfl (c_Model_valueOf X.inj  h) rfl rfl hrest hdd (fun v I' J' hv => by obtain ⟨r, rfl, hq⟩ := hv; exact kk r I' J' hq)
theorem dX11_learnt_0 : decode cX11_learnt 0 = .ok (.lload_n 1, 1) := by decide +kernel
theorem dX11_learnt_1 : decode cX11_learnt 1 = .ok (.invokestatic 161, 3) := by decide +kernel
theorem dX11_learnt_4 : decode cX11_learnt 4 = .ok (.istore_n 3, 1) := by decide +kernel
theorem dX11_learnt_5 : decode cX11_learnt 5 = .ok (.iconst 0, 1) := by decide +kernel
theorem dX11_learnt_6 : decode cX11_learnt 6 = .ok (.istore 4, 2) := by decide +kernel
theorem dX11_learnt_8 : decode cX11_learnt 8 = .ok (.iload_n 3, 1) := by decide +kernel
theorem dX11_learnt_9 : decode cX11_learnt 9 = .ok (.istore 5, 2) := by decide +kernel
theorem dX11_learnt_11 : decode cX11_learnt 11 = .ok (.aload_n 0, 1) := by decide +kernel
theorem dX11_learnt_12 : decode cX11_learnt 12 = .ok (.lload_n 1, 1) := by decide +kernel
theorem dX11_learnt_13 : decode cX11_learnt 13 = .ok (.iconst 0, 1) := by decide +kernel
theorem dX11_learnt_14 : decode cX11_learnt 14 = .ok (.invokevirtual 399, 3) := by decide +kernel
theorem dX11_learnt_17 : decode cX11_learnt 17 = .ok (.istore 6, 2) := by decide +kernel
theorem dX11_learnt_19 : decode cX11_learnt 19 = .ok (.iload 5, 2) := by decide +kernel
theorem dX11_learnt_21 : decode cX11_learnt 21 = .ok (.iload 4, 2) := by decide +kernel
theorem dX11_learnt_23 : decode cX11_learnt 23 = .ok (.iconst 1, 1) := by decide +kernel
theorem dX11_learnt_24 : decode cX11_learnt 24 = .ok (.iadd, 1) := by decide +kernel
theorem dX11_learnt_25 : decode cX11_learnt 25 = .ok (.if_icmp .le 38, 3) := by decide +kernel
theorem dX11_learnt_28 : decode cX11_learnt 28 = .ok (.iload 4, 2) := by decide +kernel
theorem dX11_learnt_30 : decode cX11_learnt 30 = .ok (.iload 5, 2) := by decide +kernel
theorem dX11_learnt_32 : decode cX11_learnt 32 = .ok (.iadd, 1) := by decide +kernel
theorem dX11_learnt_33 : decode cX11_learnt 33 = .ok (.iconst 2, 1) := by decide +kernel
theorem dX11_learnt_34 : decode cX11_learnt 34 = .ok (.idiv, 1) := by decide +kernel
theorem dX11_learnt_35 : decode cX11_learnt 35 = .ok (.istore 7, 2) := by decide +kernel
theorem dX11_learnt_37 : decode cX11_learnt 37 = .ok (.aload_n 0, 1) := by decide +kernel
theorem dX11_learnt_38 : decode cX11_learnt 38 = .ok (.lload_n 1, 1) := by decide +kernel
theorem dX11_learnt_39 : decode cX11_learnt 39 = .ok (.iload 7, 2) := by decide +kernel
theorem dX11_learnt_41 : decode cX11_learnt 41 = .ok (.invokevirtual 399, 3) := by decide +kernel
theorem dX11_learnt_44 : decode cX11_learnt 44 = .ok (.iload 6, 2) := by decide +kernel
theorem dX11_learnt_46 : decode cX11_learnt 46 = .ok (.if_icmp .ne 10, 3) := by decide +kernel
theorem dX11_learnt_49 : decode cX11_learnt 49 = .ok (.iload 7, 2) := by decide +kernel
theorem dX11_learnt_51 : decode cX11_learnt 51 = .ok (.istore 4, 2) := by decide +kernel
theorem dX11_learnt_53 : decode cX11_learnt 53 = .ok (.goto 7, 3) := by decide +kernel
theorem dX11_learnt_56 : decode cX11_learnt 56 = .ok (.iload 7, 2) := by decide +kernel
theorem dX11_learnt_58 : decode cX11_learnt 58 = .ok (.istore 5, 2) := by decide +kernel
theorem dX11_learnt_60 : decode cX11_learnt 60 = .ok (.goto (-41), 3) := by decide +kernel
theorem dX11_learnt_63 : decode cX11_learnt 63 = .ok (.lconst 1, 1) := by decide +kernel
theorem dX11_learnt_64 : decode cX11_learnt 64 = .ok (.lstore 7, 2) := by decide +kernel
theorem dX11_learnt_66 : decode cX11_learnt 66 = .ok (.iload 5, 2) := by decide +kernel
theorem dX11_learnt_68 : decode cX11_learnt 68 = .ok (.istore 9, 2) := by decide +kernel
theorem dX11_learnt_70 : decode cX11_learnt 70 = .ok (.iload 9, 2) := by decide +kernel
theorem dX11_learnt_72 : decode cX11_learnt 72 = .ok (.iload_n 3, 1) := by decide +kernel
theorem dX11_learnt_73 : decode cX11_learnt 73 = .ok (.if_icmp .ge 26, 3) := by decide +kernel
theorem dX11_learnt_76 : decode cX11_learnt 76 = .ok (.ldc2_w 197, 3) := by decide +kernel
theorem dX11_learnt_79 : decode cX11_learnt 79 = .ok (.lload 7, 2) := by decide +kernel
theorem dX11_learnt_81 : decode cX11_learnt 81 = .ok (.lmul, 1) := by decide +kernel
theorem dX11_learnt_82 : decode cX11_learnt 82 = .ok (.lload_n 1, 1) := by decide +kernel
theorem dX11_learnt_83 : decode cX11_learnt 83 = .ok (.iload_n 3, 1) := by decide +kernel
theorem dX11_learnt_84 : decode cX11_learnt 84 = .ok (.iload 9, 2) := by decide +kernel
theorem dX11_learnt_86 : decode cX11_learnt 86 = .ok (.invokestatic 175, 3) := by decide +kernel
theorem dX11_learnt_89 : decode cX11_learnt 89 = .ok (.i2l, 1) := by decide +kernel
theorem dX11_learnt_90 : decode cX11_learnt 90 = .ok (.ladd, 1) := by decide +kernel
theorem dX11_learnt_91 : decode cX11_learnt 91 = .ok (.lstore 7, 2) := by decide +kernel
theorem dX11_learnt_93 : decode cX11_learnt 93 = .ok (.iinc 9 1, 3) := by decide +kernel
theorem dX11_learnt_96 : decode cX11_learnt 96 = .ok (.goto (-26), 3) := by decide +kernel
theorem dX11_learnt_99 : decode cX11_learnt 99 = .ok (.aload_n 0, 1) := by decide +kernel
theorem dX11_learnt_100 : decode cX11_learnt 100 = .ok (.getfield 126, 3) := by decide +kernel
theorem dX11_learnt_103 : decode cX11_learnt 103 = .ok (.aload_n 0, 1) := by decide +kernel
theorem dX11_learnt_104 : decode cX11_learnt 104 = .ok (.getfield 360, 3) := by decide +kernel
theorem dX11_learnt_107 : decode cX11_learnt 107 = .ok (.lload 7, 2) := by decide +kernel
theorem dX11_learnt_109 : decode cX11_learnt 109 = .ok (.lastore, 1) := by decide +kernel
theorem dX11_learnt_110 : decode cX11_learnt 110 = .ok (.aload_n 0, 1) := by decide +kernel
theorem dX11_learnt_111 : decode cX11_learnt 111 = .ok (.dup, 1) := by decide +kernel
theorem dX11_learnt_112 : decode cX11_learnt 112 = .ok (.getfield 360, 3) := by decide +kernel
theorem dX11_learnt_115 : decode cX11_learnt 115 = .ok (.iconst 1, 1) := by decide +kernel
theorem dX11_learnt_116 : decode cX11_learnt 116 = .ok (.iadd, 1) := by decide +kernel
theorem dX11_learnt_117 : decode cX11_learnt 117 = .ok (.putfield 360, 3) := by decide +kernel
theorem dX11_learnt_120 : decode cX11_learnt 120 = .ok (.aload_n 0, 1) := by decide +kernel
theorem dX11_learnt_121 : decode cX11_learnt 121 = .ok (.lload_n 1, 1) := by decide +kernel
theorem dX11_learnt_122 : decode cX11_learnt 122 = .ok (.putfield 392, 3) := by decide +kernel
theorem dX11_learnt_125 : decode cX11_learnt 125 = .ok (.aload_n 0, 1) := by decide +kernel
theorem dX11_learnt_126 : decode cX11_learnt 126 = .ok (.aload_n 0, 1) := by decide +kernel
theorem dX11_learnt_127 : decode cX11_learnt 127 = .ok (.invokevirtual 396, 3) := by decide +kernel
theorem dX11_learnt_130 : decode cX11_learnt 130 = .ok (.invokevirtual 157, 3) := by decide +kernel
theorem dX11_learnt_133 : decode cX11_learnt 133 = .ok (.ireturn, 1) := by decide +kernel
def f_Model_learnt_L70 (x1 : Int64) (x3 : Int32) (k99 : Int64 → MI → MJ → Prop) : Nat → Int64 → Int32 → MI → MJ → Prop
  | 0, _, _, _, _ => False
  | nf70 + 1, x7, x9, I, J =>
  (if x3 ≤ x9 then k99 x7 I J else f_Model_signOf x1 x3 x9 I J (fun r86 I86 J86 => ∀ t91 : Int64, t91 = (4 * x7) + r86.toInt64 → ∀ t93 : Int32, t93 = x9 + 1 → f_Model_learnt_L70 x1 x3 k99 nf70 t91 t93 I86 J86))
def f_Model_learnt_b60 (x4 : Int32) (x5 : Int32) (kh : Int32 → Int32 → MI → MJ → Prop) (I : MI) (J : MJ) : Prop :=
  kh x4 x5 I J
def f_Model_learnt_L19 (x1 : Int64) (x6 : Int32) (k63 : Int32 → MI → MJ → Prop) : Nat → Int32 → Int32 → MI → MJ → Prop
  | 0, _, _, _, _ => False
  | nf19 + 1, x4, x5, I, J =>
  (if x5 ≤ (x4 + 1) then k63 x5 I J else ∀ t35 : Int32, t35 = (x4 + x5) / 2 → f_Model_valueOf x1 t35 I J (fun r41 I41 J41 => (if r41 = x6 then f_Model_learnt_b60 t35 x5 (f_Model_learnt_L19 x1 x6 k63 nf19) I41 J41 else f_Model_learnt_b60 x4 t35 (f_Model_learnt_L19 x1 x6 k63 nf19) I41 J41)))
def f_Model_learnt (x1 : Int64) (I : MI) (J : MJ) (Q : Int32 → MI → MJ → Prop) : Prop :=
  f_Model_lengthOf x1 I J (fun r1 I1 J1 => f_Model_valueOf x1 (0 : Int32) I1 J1 (fun r14 I14 J14 => ∃ n, f_Model_learnt_L19 x1 r14 (fun (z63_x5 : Int32) (I : MI) (J : MJ) => ∃ n, f_Model_learnt_L70 x1 r1 (fun (z99_x7 : Int64) (I : MI) (J : MJ) => vp_in (I 177 54) 64 ∧ ∀ J109 : MJ, J109 = sJ J 216 (vp_updL (J 216) (I 177 54).toNatClampNeg z99_x7) → ∀ I117 : MI, I117 = sI I 177 (upd (I 177) 54 ((I 177 54) + 1)) → ∀ J122 : MJ, J122 = sJ J109 177 (vp_updL (J109 177) 55 x1) → f_Model_guessed I117 J122 (fun r127 I127 J127 => f_Model_done r127 I127 J127 (fun r130 I130 J130 => Q r130 I130 J130))) n 1 z63_x5 I J) n 0 r1 I14 J14))
set_option maxRecDepth 100000 in
set_option maxHeartbeats 4000000 in
theorem w_Model_learnt_L70 {Γ : Ctx} {Q : Int32 → MI → MJ → Prop} {x1 : Int64} {x3 : Int32} {k99 : Int64 → MI → MJ → Prop} (X : Cx Γ cX11_learnt 10 RX11 8) (Y : Rt Γ (Pi Q) (Option.some Jvm.ClassFile.FieldType.int))  (hk99 : ∀ (x7 : Int64) (I : MI) (J : MJ), k99 x7 I J → Wp Γ 10 99 [(0, .ref (ad Γ 177)), (1, .long x1), (7, .long x7)] [] I J) : ∀ (n : Nat) (x7 : Int64) (x9 : Int32) (I : MI) (J : MJ), f_Model_learnt_L70 x1 x3 k99 n x7 x9 I J → Wp Γ 10 70 [(0, .ref (ad Γ 177)), (1, .long x1), (3, .int x3), (7, .long x7), (9, .int x9)] [] I J := by
  intro n
  induction n with
  | zero => intro x7 x9 I J h; exact absurd h (by simp [f_Model_learnt_L70])
  | succ n ih =>
  intro x7 x9 I J h
  unfold f_Model_learnt_L70 at h
  refine wp_iload X dX11_learnt_70 4 rfl ?_
  refine wp_iload_n X dX11_learnt_72 2 rfl ?_
  refine wp_icmp_ge (tgt := 99) X dX11_learnt_73 (by decide) (fun hc => ?_) (fun hc => ?_)
  · have h := ite_t h hc
    refine wp_sub X [0, 1, 3] rfl ?_
    exact hk99 _ _ _ h
  · have h := ite_f h hc
    refine wp_ldc2 X kl_X11_197 dX11_learnt_76 ?_
    refine wp_lload X dX11_learnt_79 3 rfl ?_
    refine wp_lmul X dX11_learnt_81 ?_
    refine wp_lload_n X dX11_learnt_82 1 rfl ?_
    refine wp_iload_n X dX11_learnt_83 2 rfl ?_
    refine wp_iload X dX11_learnt_84 4 rfl ?_
    refine cs_Model_signOf X dX11_learnt_86 ml_X11_175  h (Nat.le_of_ble_eq_true rfl) (by decide) (fun r86 I86 J86 h => ?_)
    refine wp_i2l X dX11_learnt_89 ?_
    refine wp_ladd X dX11_learnt_90 ?_
    refine wp_topl (fun t91 et91 => ?_)
    have h := h t91 et91
    refine wp_lstore (L' := [(7, .long t91), (0, .ref (ad Γ 177)), (1, .long x1), (3, .int x3), (9, .int x9)]) X dX11_learnt_91 (by decide) rfl ?_
    obtain ⟨t93, et93⟩ : ∃ y : Int32, y = x9 + 1 := ⟨_, rfl⟩
    have h := h t93 et93
    refine wp_iinc (L' := [(9, .int t93), (7, .long t91), (0, .ref (ad Γ 177)), (1, .long x1), (3, .int x3)]) X dX11_learnt_93 4 rfl (ii_1 et93) (by decide) rfl ?_
    refine wp_goto (tgt := 70) X dX11_learnt_96 (by decide) ?_
    refine wp_sub X [2, 3, 4, 1, 0] rfl ?_
    exact ih _ _ _ _ h

set_option maxRecDepth 100000 in
set_option maxHeartbeats 4000000 in
theorem w_Model_learnt_b60 {Γ : Ctx} {Q : Int32 → MI → MJ → Prop} {x1 : Int64} {x3 : Int32} {x4 : Int32} {x5 : Int32} {x6 : Int32} {kh : Int32 → Int32 → MI → MJ → Prop} (X : Cx Γ cX11_learnt 10 RX11 8) (Y : Rt Γ (Pi Q) (Option.some Jvm.ClassFile.FieldType.int))  (hkh : ∀ (x4 : Int32) (x5 : Int32) (I : MI) (J : MJ), kh x4 x5 I J → Wp Γ 10 19 [(0, .ref (ad Γ 177)), (1, .long x1), (3, .int x3), (4, .int x4), (5, .int x5), (6, .int x6)] [] I J) {I : MI} {J : MJ} (h : f_Model_learnt_b60 x4 x5 kh I J) : Wp Γ 10 60 [(0, .ref (ad Γ 177)), (1, .long x1), (3, .int x3), (4, .int x4), (5, .int x5), (6, .int x6)] [] I J := by
  unfold f_Model_learnt_b60 at h
  refine wp_goto (tgt := 19) X dX11_learnt_60 (by decide) ?_
  exact hkh _ _ _ _ h

set_option maxRecDepth 100000 in
set_option maxHeartbeats 4000000 in
theorem w_Model_learnt_L19 {Γ : Ctx} {Q : Int32 → MI → MJ → Prop} {x1 : Int64} {x3 : Int32} {x6 : Int32} {k63 : Int32 → MI → MJ → Prop} (X : Cx Γ cX11_learnt 10 RX11 8) (Y : Rt Γ (Pi Q) (Option.some Jvm.ClassFile.FieldType.int))  (hk63 : ∀ (x5 : Int32) (I : MI) (J : MJ), k63 x5 I J → Wp Γ 10 63 [(0, .ref (ad Γ 177)), (1, .long x1), (3, .int x3), (5, .int x5)] [] I J) : ∀ (n : Nat) (x4 : Int32) (x5 : Int32) (I : MI) (J : MJ), f_Model_learnt_L19 x1 x6 k63 n x4 x5 I J → Wp Γ 10 19 [(0, .ref (ad Γ 177)), (1, .long x1), (3, .int x3), (4, .int x4), (5, .int x5), (6, .int x6)] [] I J := by
  intro n
  induction n with
  | zero => intro x4 x5 I J h; exact absurd h (by simp [f_Model_learnt_L19])
  | succ n ih =>
  intro x4 x5 I J h
  unfold f_Model_learnt_L19 at h
  refine wp_iload X dX11_learnt_19 4 rfl ?_
  refine wp_iload X dX11_learnt_21 3 rfl ?_
  refine wp_iconst X dX11_learnt_23 ic_1 ?_
  refine wp_iadd X dX11_learnt_24 ?_
  refine wp_icmp_le (tgt := 63) X dX11_learnt_25 (by decide) (fun hc => ?_) (fun hc => ?_)
  · have h := ite_t h hc
    refine wp_sub X [0, 1, 2, 4] rfl ?_
    exact hk63 _ _ _ h
  · have h := ite_f h hc
    refine wp_iload X dX11_learnt_28 3 rfl ?_
    refine wp_iload X dX11_learnt_30 4 rfl ?_
    refine wp_iadd X dX11_learnt_32 ?_
    refine wp_iconst X dX11_learnt_33 ic_2 ?_
    refine wp_idiv X dX11_learnt_34 (by decide) ?_
    refine wp_topi (fun t35 et35 => ?_)
    have h := h t35 et35
    refine wp_istore (L' := [(7, .int t35), (0, .ref (ad Γ 177)), (1, .long x1), (3, .int x3), (4, .int x4), (5, .int x5), (6, .int x6)]) X dX11_learnt_35 (by decide) rfl ?_
    refine wp_aload_n X dX11_learnt_37 1 rfl ?_
    refine wp_lload_n X dX11_learnt_38 2 rfl ?_
    refine wp_iload X dX11_learnt_39 0 rfl ?_
    refine cv_Model_valueOf X dX11_learnt_41 ml_X11_399  h (Nat.le_of_ble_eq_true rfl) (by decide) (fun r41 I41 J41 h => ?_)
    refine wp_iload X dX11_learnt_44 6 rfl ?_
    refine wp_icmp_ne (tgt := 56) X dX11_learnt_46 (by decide) (fun hc => ?_) (fun hc => ?_)
    · have h := ite_f h hc
      refine wp_iload X dX11_learnt_56 0 rfl ?_
      refine wp_istore (L' := [(5, .int t35), (7, .int t35), (0, .ref (ad Γ 177)), (1, .long x1), (3, .int x3), (4, .int x4), (6, .int x6)]) X dX11_learnt_58 (by decide) rfl ?_
      refine wp_sub X [2, 3, 4, 5, 0, 6] rfl ?_
      exact w_Model_learnt_b60 X Y ih h
    · have h := ite_t h hc
      refine wp_iload X dX11_learnt_49 0 rfl ?_
      refine wp_istore (L' := [(4, .int t35), (7, .int t35), (0, .ref (ad Γ 177)), (1, .long x1), (3, .int x3), (5, .int x5), (6, .int x6)]) X dX11_learnt_51 (by decide) rfl ?_
      refine wp_goto (tgt := 60) X dX11_learnt_53 (by decide) ?_
      refine wp_sub X [2, 3, 4, 0, 5, 6] rfl ?_
      exact w_Model_learnt_b60 X Y ih h

set_option maxRecDepth 100000 in
set_option maxHeartbeats 4000000 in
theorem w_Model_learnt_b0 {Γ : Ctx} {Q : Int32 → MI → MJ → Prop} {x1 : Int64}  (X : Cx Γ cX11_learnt 10 RX11 8) (Y : Rt Γ (Pi Q) (Option.some Jvm.ClassFile.FieldType.int))   {I : MI} {J : MJ} (h : f_Model_learnt x1 I J Q) : Wp Γ 10 0 [(0, .ref (ad Γ 177)), (1, .long x1)] [] I J := by
  unfold f_Model_learnt at h
  refine wp_lload_n X dX11_learnt_0 1 rfl ?_
  refine cs_Model_lengthOf X dX11_learnt_1 ml_X11_161  h (Nat.le_of_ble_eq_true rfl) (by decide) (fun r1 I1 J1 h => ?_)
  refine wp_istore_n (L' := [(3, .int r1), (0, .ref (ad Γ 177)), (1, .long x1)]) X dX11_learnt_4 rfl (by decide) rfl ?_
  refine wp_iconst X dX11_learnt_5 ic_0 ?_
  refine wp_istore (L' := [(4, .int 0), (3, .int r1), (0, .ref (ad Γ 177)), (1, .long x1)]) X dX11_learnt_6 (by decide) rfl ?_
  refine wp_iload_n X dX11_learnt_8 1 rfl ?_
  refine wp_istore (L' := [(5, .int r1), (4, .int 0), (3, .int r1), (0, .ref (ad Γ 177)), (1, .long x1)]) X dX11_learnt_9 (by decide) rfl ?_
  refine wp_aload_n X dX11_learnt_11 3 rfl ?_
  refine wp_lload_n X dX11_learnt_12 4 rfl ?_
  refine wp_iconst X dX11_learnt_13 ic_0 ?_
  refine cv_Model_valueOf X dX11_learnt_14 ml_X11_399  h (Nat.le_of_ble_eq_true rfl) (by decide) (fun r14 I14 J14 h => ?_)
  refine wp_istore (L' := [(6, .int r14), (5, .int r1), (4, .int 0), (3, .int r1), (0, .ref (ad Γ 177)), (1, .long x1)]) X dX11_learnt_17 (by decide) rfl ?_
  obtain ⟨n, h⟩ := h
  refine wp_sub X [4, 5, 3, 2, 1, 0] rfl ?_
  refine w_Model_learnt_L19 X Y  ?_ n _ _ _ _ h
  · intro z63_x5 I J h
    refine wp_lconst X dX11_learnt_63 lc_1 ?_
    refine wp_lstore (L' := [(7, .long 1), (0, .ref (ad Γ 177)), (1, .long x1), (3, .int r1), (5, .int z63_x5)]) X dX11_learnt_64 (by decide) rfl ?_
    refine wp_iload X dX11_learnt_66 4 rfl ?_
    refine wp_istore (L' := [(9, .int z63_x5), (7, .long 1), (0, .ref (ad Γ 177)), (1, .long x1), (3, .int r1), (5, .int z63_x5)]) X dX11_learnt_68 (by decide) rfl ?_
    obtain ⟨n, h⟩ := h
    refine wp_sub X [2, 3, 4, 1, 0] rfl ?_
    refine w_Model_learnt_L70 X Y  ?_ n _ _ _ _ h
    · intro z99_x7 I J h
      refine wp_aload_n X dX11_learnt_99 0 rfl ?_
      refine gf_X11_126 (o' := 216) X sh_177 rfl dX11_learnt_100 ?_
      refine wp_aload_n X dX11_learnt_103 0 rfl ?_
      refine gf_X11_360 X sh_177 dX11_learnt_104 ?_
      refine wp_lload X dX11_learnt_107 2 rfl ?_
      obtain ⟨hb109, h⟩ := h
      refine wp_last X sh_216 hb109 dX11_learnt_109 ?_
      refine wp_memJ (fun J109 eJ109 => ?_)
      have h := h J109 eJ109
      refine wp_aload_n X dX11_learnt_110 0 rfl ?_
      refine wp_dup X dX11_learnt_111 rfl ?_
      refine gf_X11_360 X sh_177 dX11_learnt_112 ?_
      refine wp_iconst X dX11_learnt_115 ic_1 ?_
      refine wp_iadd X dX11_learnt_116 ?_
      refine pf_X11_360 X sh_177 dX11_learnt_117 (fun I117 eI117 => ?_)
      have h := h I117 eI117
      refine wp_aload_n X dX11_learnt_120 0 rfl ?_
      refine wp_lload_n X dX11_learnt_121 1 rfl ?_
      refine pf_X11_392 X sh_177 dX11_learnt_122 (fun J122 eJ122 => ?_)
      have h := h J122 eJ122
      refine wp_aload_n X dX11_learnt_125 0 rfl ?_
      refine wp_aload_n X dX11_learnt_126 0 rfl ?_
      refine cv_Model_guessed X dX11_learnt_127 ml_X11_396  h (Nat.le_of_ble_eq_true rfl) (by decide) (fun r127 I127 J127 h => ?_)
      refine cv_Model_done X dX11_learnt_130 ml_X11_157  h (Nat.le_of_ble_eq_true rfl) (by decide) (fun r130 I130 J130 h => ?_)
      exact wp_iret X Y dX11_learnt_133 ⟨_, rfl, h⟩

theorem c_Model_learnt {l : Launch} {g : GE} (hg : Inj g) {I : MI} {J : MJ} {Q : Int32 → MI → MJ → Prop} {x1 : Int64}  (h : f_Model_learnt x1 I J Q) : Cm l g yX11_learnt cX11_learnt 10 (Option.some Jvm.ClassFile.FieldType.int) 8 [.ref (g.1 177), .long x1] I J (Pi Q) := by
  refine Cm.of (As := fun ad => [.ref (ad 177), .long x1]) hg pn_X11 (Nat.le_of_ble_eq_true rfl) ?_
  exact (fun Γ _ _ X Y => w_Model_learnt_b0 X Y  h)
theorem cv_Model_learnt {Γ : Ctx} {cc : ByteArray} {nL d pc index : Nat} {own : String} {L : List (Nat × Value)} {rest : List Value} {I : MI} {J : MJ} {Q : Int32 → MI → MJ → Prop} {x1 : Int64} (X : Cx Γ cc nL own d) (hd : decode cc pc = .ok (.invokevirtual index, 3)) (hlink : Cond.methodLink own index yX11_learnt ∈ TT)  (h : f_Model_learnt x1 I J Q) (hrest : (rest.map fun v => v.category).sum ≤ 8) (hdd : 8 + 1 ≤ d) (kk : ∀ (r : Int32) (I' : MI) (J' : MJ), Q r I' J' → Wp Γ nL (pc + 3) L (.int r :: rest) I' J') : Wp Γ nL pc L (.long x1 :: .ref (ad Γ 177) :: rest) I J :=
  wp_callV (As := [.long x1]) (rest := rest) (T := TX11) (N := 62) X hd hlink mv_X11_learnt sh_177 (by decide) rfl (c_Model_learnt X.inj  h) rfl rfl hrest hdd (fun v I' J' hv => by obtain ⟨r, rfl, hq⟩ := hv; exact kk r I' J' hq)
theorem dX11_exam_0 : decode cX11_exam 0 = .ok (.aload_n 0, 1) := by decide +kernel
theorem dX11_exam_1 : decode cX11_exam 1 = .ok (.getfield 388, 3) := by decide +kernel
theorem dX11_exam_4 : decode cX11_exam 4 = .ok (.ifCond .ne 9, 3) := by decide +kernel
theorem dX11_exam_7 : decode cX11_exam 7 = .ok (.aload_n 0, 1) := by decide +kernel
theorem dX11_exam_8 : decode cX11_exam 8 = .ok (.iconst 1, 1) := by decide +kernel
theorem dX11_exam_9 : decode cX11_exam 9 = .ok (.invokevirtual 219, 3) := by decide +kernel
theorem dX11_exam_12 : decode cX11_exam 12 = .ok (.ireturn, 1) := by decide +kernel
theorem dX11_exam_13 : decode cX11_exam 13 = .ok (.aload_n 0, 1) := by decide +kernel
theorem dX11_exam_14 : decode cX11_exam 14 = .ok (.bipush 16, 2) := by decide +kernel
theorem dX11_exam_16 : decode cX11_exam 16 = .ok (.iconst 0, 1) := by decide +kernel
theorem dX11_exam_17 : decode cX11_exam 17 = .ok (.bipush 17, 2) := by decide +kernel
theorem dX11_exam_19 : decode cX11_exam 19 = .ok (.iconst 0, 1) := by decide +kernel
theorem dX11_exam_20 : decode cX11_exam 20 = .ok (.invokevirtual 279, 3) := by decide +kernel
theorem dX11_exam_23 : decode cX11_exam 23 = .ok (.lstore_n 1, 1) := by decide +kernel
theorem dX11_exam_24 : decode cX11_exam 24 = .ok (.lload_n 1, 1) := by decide +kernel
theorem dX11_exam_25 : decode cX11_exam 25 = .ok (.lconst 0, 1) := by decide +kernel
theorem dX11_exam_26 : decode cX11_exam 26 = .ok (.lcmp, 1) := by decide +kernel
theorem dX11_exam_27 : decode cX11_exam 27 = .ok (.ifCond .eq 14, 3) := by decide +kernel
theorem dX11_exam_30 : decode cX11_exam 30 = .ok (.lload_n 1, 1) := by decide +kernel
theorem dX11_exam_31 : decode cX11_exam 31 = .ok (.invokestatic 161, 3) := by decide +kernel
theorem dX11_exam_34 : decode cX11_exam 34 = .ok (.aload_n 0, 1) := by decide +kernel
theorem dX11_exam_35 : decode cX11_exam 35 = .ok (.getfield 385, 3) := by decide +kernel
theorem dX11_exam_38 : decode cX11_exam 38 = .ok (.if_icmp .le 11, 3) := by decide +kernel
theorem dX11_exam_41 : decode cX11_exam 41 = .ok (.aload_n 0, 1) := by decide +kernel
theorem dX11_exam_42 : decode cX11_exam 42 = .ok (.iconst 0, 1) := by decide +kernel
theorem dX11_exam_43 : decode cX11_exam 43 = .ok (.invokevirtual 157, 3) := by decide +kernel
theorem dX11_exam_46 : decode cX11_exam 46 = .ok (.goto 8, 3) := by decide +kernel
theorem dX11_exam_49 : decode cX11_exam 49 = .ok (.aload_n 0, 1) := by decide +kernel
theorem dX11_exam_50 : decode cX11_exam 50 = .ok (.lload_n 1, 1) := by decide +kernel
theorem dX11_exam_51 : decode cX11_exam 51 = .ok (.invokevirtual 402, 3) := by decide +kernel
theorem dX11_exam_54 : decode cX11_exam 54 = .ok (.ireturn, 1) := by decide +kernel
def f_Model_exam_b41  (Q : Int32 → MI → MJ → Prop) (I : MI) (J : MJ) : Prop :=
  f_Model_done (0 : Int32) I J (fun r43 I43 J43 => Q r43 I43 J43)
def f_Model_exam (I : MI) (J : MJ) (Q : Int32 → MI → MJ → Prop) : Prop :=
  (if (I 177 49) = 0 then f_Model_refuse (1 : Int32) I J (fun r9 I9 J9 => Q r9 I9 J9) else f_Model_difference (16 : Int32) (0 : Int32) (17 : Int32) (0 : Int32) I J (fun r20 I20 J20 => (if r20 = 0 then f_Model_exam_b41 Q I20 J20 else f_Model_lengthOf r20 I20 J20 (fun r31 I31 J31 => (if r31 ≤ (I31 177 50) then f_Model_learnt r20 I31 J31 (fun r51 I51 J51 => Q r51 I51 J51) else f_Model_exam_b41 Q I31 J31)))))
set_option maxRecDepth 100000 in
set_option maxHeartbeats 4000000 in
theorem w_Model_exam_b41 {Γ : Ctx} {Q : Int32 → MI → MJ → Prop}   (X : Cx Γ cX11_exam 3 RX11 9) (Y : Rt Γ (Pi Q) (Option.some Jvm.ClassFile.FieldType.int))   {I : MI} {J : MJ} (h : f_Model_exam_b41 Q I J) : Wp Γ 3 41 [(0, .ref (ad Γ 177))] [] I J := by
  unfold f_Model_exam_b41 at h
  refine wp_aload_n X dX11_exam_41 0 rfl ?_
  refine wp_iconst X dX11_exam_42 ic_0 ?_
  refine cv_Model_done X dX11_exam_43 ml_X11_157  h (Nat.le_of_ble_eq_true rfl) (by decide) (fun r43 I43 J43 h => ?_)
  refine wp_goto (tgt := 54) X dX11_exam_46 (by decide) ?_
  exact wp_iret X Y dX11_exam_54 ⟨_, rfl, h⟩

set_option maxRecDepth 100000 in
set_option maxHeartbeats 4000000 in
theorem w_Model_exam_b0 {Γ : Ctx} {Q : Int32 → MI → MJ → Prop}   (X : Cx Γ cX11_exam 3 RX11 9) (Y : Rt Γ (Pi Q) (Option.some Jvm.ClassFile.FieldType.int))   {I : MI} {J : MJ} (h : f_Model_exam  I J Q) : Wp Γ 3 0 [(0, .ref (ad Γ 177))] [] I J := by
  unfold f_Model_exam at h
  refine wp_aload_n X dX11_exam_0 0 rfl ?_
  refine gf_X11_388 X sh_177 dX11_exam_1 ?_
  refine wp_if_ne (tgt := 13) X dX11_exam_4 (by decide) (fun hc => ?_) (fun hc => ?_)
  · have h := ite_f h hc
    refine wp_aload_n X dX11_exam_13 0 rfl ?_
    refine wp_bipush X dX11_exam_14 bi_16 ?_
    refine wp_iconst X dX11_exam_16 ic_0 ?_
    refine wp_bipush X dX11_exam_17 bi_17 ?_
    refine wp_iconst X dX11_exam_19 ic_0 ?_
    refine cv_Model_difference X dX11_exam_20 ml_X11_279  h (Nat.le_of_ble_eq_true rfl) (by decide) (fun r20 I20 J20 h => ?_)
    refine wp_lstore_n (L' := [(1, .long r20), (0, .ref (ad Γ 177))]) X dX11_exam_23 rfl (by decide) rfl ?_
    refine wp_lload_n X dX11_exam_24 0 rfl ?_
    refine wp_lconst X dX11_exam_25 lc_0 ?_
    refine wp_lcmp_eq (tgt := 41) X dX11_exam_26 dX11_exam_27 (by decide) (fun hc => ?_) (fun hc => ?_)
    · have h := ite_t h hc
      refine wp_sub X [1] rfl ?_
      exact w_Model_exam_b41 X Y  h
    · have h := ite_f h hc
      refine wp_lload_n X dX11_exam_30 0 rfl ?_
      refine cs_Model_lengthOf X dX11_exam_31 ml_X11_161  h (Nat.le_of_ble_eq_true rfl) (by decide) (fun r31 I31 J31 h => ?_)
      refine wp_aload_n X dX11_exam_34 1 rfl ?_
      refine gf_X11_385 X sh_177 dX11_exam_35 ?_
      refine wp_icmp_le (tgt := 49) X dX11_exam_38 (by decide) (fun hc => ?_) (fun hc => ?_)
      · have h := ite_t h hc
        refine wp_aload_n X dX11_exam_49 1 rfl ?_
        refine wp_lload_n X dX11_exam_50 0 rfl ?_
        refine cv_Model_learnt X dX11_exam_51 ml_X11_402  h (Nat.le_of_ble_eq_true rfl) (by decide) (fun r51 I51 J51 h => ?_)
        exact wp_iret X Y dX11_exam_54 ⟨_, rfl, h⟩
      · have h := ite_f h hc
        refine wp_sub X [1] rfl ?_
        exact w_Model_exam_b41 X Y  h
  · have h := ite_t h hc
    refine wp_aload_n X dX11_exam_7 0 rfl ?_
    refine wp_iconst X dX11_exam_8 ic_1 ?_
    refine cv_Model_refuse X dX11_exam_9 ml_X11_219  h (Nat.le_of_ble_eq_true rfl) (by decide) (fun r9 I9 J9 h => ?_)
    exact wp_iret X Y dX11_exam_12 ⟨_, rfl, h⟩

theorem c_Model_exam {l : Launch} {g : GE} (hg : Inj g) {I : MI} {J : MJ} {Q : Int32 → MI → MJ → Prop}   (h : f_Model_exam  I J Q) : Cm l g yX11_exam cX11_exam 3 (Option.some Jvm.ClassFile.FieldType.int) 9 [.ref (g.1 177)] I J (Pi Q) := by
  refine Cm.of (As := fun ad => [.ref (ad 177)]) hg pn_X11 (Nat.le_of_ble_eq_true rfl) ?_
  exact (fun Γ _ _ X Y => w_Model_exam_b0 X Y  h)
theorem cv_Model_exam {Γ : Ctx} {cc : ByteArray} {nL d pc index : Nat} {own : String} {L : List (Nat × Value)} {rest : List Value} {I : MI} {J : MJ} {Q : Int32 → MI → MJ → Prop}  (X : Cx Γ cc nL own d) (hd : decode cc pc = .ok (.invokevirtual index, 3)) (hlink : Cond.methodLink own index yX11_exam ∈ TT)  (h : f_Model_exam  I J Q) (hrest : (rest.map fun v => v.category).sum ≤ 8) (hdd : 9 + 1 ≤ d) (kk : ∀ (r : Int32) (I' : MI) (J' : MJ), Q r I' J' → Wp Γ nL (pc + 3) L (.int r :: rest) I' J') : Wp Γ nL pc L (.ref (ad Γ 177) :: rest) I J :=
  wp_callV (As := []) (rest := rest) (T := TX11) (N := 62) X hd hlink mv_X11_exam sh_177 (by decide) rfl (c_Model_exam X.inj  h) rfl rfl hrest hdd (fun v I' J' hv => by obtain ⟨r, rfl, hq⟩ := hv; exact kk r I' J' hq)
theorem dX11_tell_0 : decode cX11_tell 0 = .ok (.aload_n 0, 1) := by decide +kernel
theorem dX11_tell_1 : decode cX11_tell 1 = .ok (.getfield 388, 3) := by decide +kernel
theorem dX11_tell_4 : decode cX11_tell 4 = .ok (.ifCond .ne 9, 3) := by decide +kernel
theorem dX11_tell_7 : decode cX11_tell 7 = .ok (.aload_n 0, 1) := by decide +kernel
theorem dX11_tell_8 : decode cX11_tell 8 = .ok (.iconst 1, 1) := by decide +kernel
theorem dX11_tell_9 : decode cX11_tell 9 = .ok (.invokevirtual 219, 3) := by decide +kernel
theorem dX11_tell_12 : decode cX11_tell 12 = .ok (.ireturn, 1) := by decide +kernel
theorem dX11_tell_13 : decode cX11_tell 13 = .ok (.lload_n 1, 1) := by decide +kernel
theorem dX11_tell_14 : decode cX11_tell 14 = .ok (.invokestatic 245, 3) := by decide +kernel
theorem dX11_tell_17 : decode cX11_tell 17 = .ok (.ifCond .ne 9, 3) := by decide +kernel
theorem dX11_tell_20 : decode cX11_tell 20 = .ok (.aload_n 0, 1) := by decide +kernel
theorem dX11_tell_21 : decode cX11_tell 21 = .ok (.iconst 2, 1) := by decide +kernel
theorem dX11_tell_22 : decode cX11_tell 22 = .ok (.invokevirtual 219, 3) := by decide +kernel
theorem dX11_tell_25 : decode cX11_tell 25 = .ok (.ireturn, 1) := by decide +kernel
theorem dX11_tell_26 : decode cX11_tell 26 = .ok (.aload_n 0, 1) := by decide +kernel
theorem dX11_tell_27 : decode cX11_tell 27 = .ok (.bipush 16, 2) := by decide +kernel
theorem dX11_tell_29 : decode cX11_tell 29 = .ok (.lload_n 1, 1) := by decide +kernel
theorem dX11_tell_30 : decode cX11_tell 30 = .ok (.invokevirtual 253, 3) := by decide +kernel
theorem dX11_tell_33 : decode cX11_tell 33 = .ok (.aload_n 0, 1) := by decide +kernel
theorem dX11_tell_34 : decode cX11_tell 34 = .ok (.bipush 17, 2) := by decide +kernel
theorem dX11_tell_36 : decode cX11_tell 36 = .ok (.lload_n 1, 1) := by decide +kernel
theorem dX11_tell_37 : decode cX11_tell 37 = .ok (.invokevirtual 253, 3) := by decide +kernel
theorem dX11_tell_40 : decode cX11_tell 40 = .ok (.if_icmp .ne 12, 3) := by decide +kernel
theorem dX11_tell_43 : decode cX11_tell 43 = .ok (.aload_n 0, 1) := by decide +kernel
theorem dX11_tell_44 : decode cX11_tell 44 = .ok (.bipush 6, 2) := by decide +kernel
theorem dX11_tell_46 : decode cX11_tell 46 = .ok (.invokevirtual 219, 3) := by decide +kernel
theorem dX11_tell_49 : decode cX11_tell 49 = .ok (.goto 8, 3) := by decide +kernel
theorem dX11_tell_52 : decode cX11_tell 52 = .ok (.aload_n 0, 1) := by decide +kernel
theorem dX11_tell_53 : decode cX11_tell 53 = .ok (.lload_n 1, 1) := by decide +kernel
theorem dX11_tell_54 : decode cX11_tell 54 = .ok (.invokevirtual 402, 3) := by decide +kernel
theorem dX11_tell_57 : decode cX11_tell 57 = .ok (.ireturn, 1) := by decide +kernel
def f_Model_tell (x1 : Int64) (I : MI) (J : MJ) (Q : Int32 → MI → MJ → Prop) : Prop :=
  (if (I 177 49) = 0 then f_Model_refuse (1 : Int32) I J (fun r9 I9 J9 => Q r9 I9 J9) else f_Model_isWord x1 I J (fun r14 I14 J14 => (if r14 = 0 then f_Model_refuse (2 : Int32) I14 J14 (fun r22 I22 J22 => Q r22 I22 J22) else f_Model_answerBy (16 : Int32) x1 I14 J14 (fun r30 I30 J30 => f_Model_answerBy (17 : Int32) x1 I30 J30 (fun r37 I37 J37 => (if r30 = r37 then f_Model_refuse (6 : Int32) I37 J37 (fun r46 I46 J46 => Q r46 I46 J46) else f_Model_learnt x1 I37 J37 (fun r54 I54 J54 => Q r54 I54 J54)))))))
set_option maxRecDepth 100000 in
set_option maxHeartbeats 4000000 in
theorem w_Model_tell_b0 {Γ : Ctx} {Q : Int32 → MI → MJ → Prop} {x1 : Int64}  (X : Cx Γ cX11_tell 3 RX11 9) (Y : Rt Γ (Pi Q) (Option.some Jvm.ClassFile.FieldType.int))   {I : MI} {J : MJ} (h : f_Model_tell x1 I J Q) : Wp Γ 3 0 [(0, .ref (ad Γ 177)), (1, .long x1)] [] I J := by
  unfold f_Model_tell at h
  refine wp_aload_n X dX11_tell_0 0 rfl ?_
  refine gf_X11_388 X sh_177 dX11_tell_1 ?_
  refine wp_if_ne (tgt := 13) X dX11_tell_4 (by decide) (fun hc => ?_) (fun hc => ?_)
  · have h := ite_f h hc
    refine wp_lload_n X dX11_tell_13 1 rfl ?_
    refine cs_Model_isWord X dX11_tell_14 ml_X11_245  h (Nat.le_of_ble_eq_true rfl) (by decide) (fun r14 I14 J14 h => ?_)
    refine wp_if_ne (tgt := 26) X dX11_tell_17 (by decide) (fun hc => ?_) (fun hc => ?_)
    · have h := ite_f h hc
      refine wp_aload_n X dX11_tell_26 0 rfl ?_
      refine wp_bipush X dX11_tell_27 bi_16 ?_
      refine wp_lload_n X dX11_tell_29 1 rfl ?_
      refine cv_Model_answerBy X dX11_tell_30 ml_X11_253  h (Nat.le_of_ble_eq_true rfl) (by decide) (fun r30 I30 J30 h => ?_)
      refine wp_aload_n X dX11_tell_33 0 rfl ?_
      refine wp_bipush X dX11_tell_34 bi_17 ?_
      refine wp_lload_n X dX11_tell_36 1 rfl ?_
      refine cv_Model_answerBy X dX11_tell_37 ml_X11_253  h (Nat.le_of_ble_eq_true rfl) (by decide) (fun r37 I37 J37 h => ?_)
      refine wp_icmp_ne (tgt := 52) X dX11_tell_40 (by decide) (fun hc => ?_) (fun hc => ?_)
      · have h := ite_f h hc
        refine wp_aload_n X dX11_tell_52 0 rfl ?_
        refine wp_lload_n X dX11_tell_53 1 rfl ?_
        refine cv_Model_learnt X dX11_tell_54 ml_X11_402  h (Nat.le_of_ble_eq_true rfl) (by decide) (fun r54 I54 J54 h => ?_)
        exact wp_iret X Y dX11_tell_57 ⟨_, rfl, h⟩
      · have h := ite_t h hc
        refine wp_aload_n X dX11_tell_43 0 rfl ?_
        refine wp_bipush X dX11_tell_44 bi_6 ?_
        refine cv_Model_refuse X dX11_tell_46 ml_X11_219  h (Nat.le_of_ble_eq_true rfl) (by decide) (fun r46 I46 J46 h => ?_)
        refine wp_goto (tgt := 57) X dX11_tell_49 (by decide) ?_
        exact wp_iret X Y dX11_tell_57 ⟨_, rfl, h⟩
    · have h := ite_t h hc
      refine wp_aload_n X dX11_tell_20 0 rfl ?_
      refine wp_iconst X dX11_tell_21 ic_2 ?_
      refine cv_Model_refuse X dX11_tell_22 ml_X11_219  h (Nat.le_of_ble_eq_true rfl) (by decide) (fun r22 I22 J22 h => ?_)
      exact wp_iret X Y dX11_tell_25 ⟨_, rfl, h⟩
  · have h := ite_t h hc
    refine wp_aload_n X dX11_tell_7 0 rfl ?_
    refine wp_iconst X dX11_tell_8 ic_1 ?_
    refine cv_Model_refuse X dX11_tell_9 ml_X11_219  h (Nat.le_of_ble_eq_true rfl) (by decide) (fun r9 I9 J9 h => ?_)
    exact wp_iret X Y dX11_tell_12 ⟨_, rfl, h⟩

theorem c_Model_tell {l : Launch} {g : GE} (hg : Inj g) {I : MI} {J : MJ} {Q : Int32 → MI → MJ → Prop} {x1 : Int64}  (h : f_Model_tell x1 I J Q) : Cm l g yX11_tell cX11_tell 3 (Option.some Jvm.ClassFile.FieldType.int) 9 [.ref (g.1 177), .long x1] I J (Pi Q) := by
  refine Cm.of (As := fun ad => [.ref (ad 177), .long x1]) hg pn_X11 (Nat.le_of_ble_eq_true rfl) ?_
  exact (fun Γ _ _ X Y => w_Model_tell_b0 X Y  h)
theorem cv_Model_tell {Γ : Ctx} {cc : ByteArray} {nL d pc index : Nat} {own : String} {L : List (Nat × Value)} {rest : List Value} {I : MI} {J : MJ} {Q : Int32 → MI → MJ → Prop} {x1 : Int64} (X : Cx Γ cc nL own d) (hd : decode cc pc = .ok (.invokevirtual index, 3)) (hlink : Cond.methodLink own index yX11_tell ∈ TT)  (h : f_Model_tell x1 I J Q) (hrest : (rest.map fun v => v.category).sum ≤ 8) (hdd : 9 + 1 ≤ d) (kk : ∀ (r : Int32) (I' : MI) (J' : MJ), Q r I' J' → Wp Γ nL (pc + 3) L (.int r :: rest) I' J') : Wp Γ nL pc L (.long x1 :: .ref (ad Γ 177) :: rest) I J :=
  wp_callV (As := [.long x1]) (rest := rest) (T := TX11) (N := 62) X hd hlink mv_X11_tell sh_177 (by decide) rfl (c_Model_tell X.inj  h) rfl rfl hrest hdd (fun v I' J' hv => by obtain ⟨r, rfl, hq⟩ := hv; exact kk r I' J' hq)
theorem dX11_guess_0 : decode cX11_guess 0 = .ok (.aload_n 0, 1) := by decide +kernel
theorem dX11_guess_1 : decode cX11_guess 1 = .ok (.getfield 388, 3) := by decide +kernel
theorem dX11_guess_4 : decode cX11_guess 4 = .ok (.ifCond .ne 9, 3) := by decide +kernel
theorem dX11_guess_7 : decode cX11_guess 7 = .ok (.aload_n 0, 1) := by decide +kernel
theorem dX11_guess_8 : decode cX11_guess 8 = .ok (.iconst 1, 1) := by decide +kernel
theorem dX11_guess_9 : decode cX11_guess 9 = .ok (.invokevirtual 219, 3) := by decide +kernel
theorem dX11_guess_12 : decode cX11_guess 12 = .ok (.ireturn, 1) := by decide +kernel
theorem dX11_guess_13 : decode cX11_guess 13 = .ok (.iload_n 1, 1) := by decide +kernel
theorem dX11_guess_14 : decode cX11_guess 14 = .ok (.invokestatic 145, 3) := by decide +kernel
theorem dX11_guess_17 : decode cX11_guess 17 = .ok (.ifCond .eq 13, 3) := by decide +kernel
theorem dX11_guess_20 : decode cX11_guess 20 = .ok (.aload_n 0, 1) := by decide +kernel
theorem dX11_guess_21 : decode cX11_guess 21 = .ok (.iload_n 1, 1) := by decide +kernel
theorem dX11_guess_22 : decode cX11_guess 22 = .ok (.bipush 17, 2) := by decide +kernel
theorem dX11_guess_24 : decode cX11_guess 24 = .ok (.invokevirtual 282, 3) := by decide +kernel
theorem dX11_guess_27 : decode cX11_guess 27 = .ok (.goto 8, 3) := by decide +kernel
theorem dX11_guess_30 : decode cX11_guess 30 = .ok (.aload_n 0, 1) := by decide +kernel
theorem dX11_guess_31 : decode cX11_guess 31 = .ok (.iconst 2, 1) := by decide +kernel
theorem dX11_guess_32 : decode cX11_guess 32 = .ok (.invokevirtual 219, 3) := by decide +kernel
theorem dX11_guess_35 : decode cX11_guess 35 = .ok (.ireturn, 1) := by decide +kernel
def f_Model_guess (x1 : Int32) (I : MI) (J : MJ) (Q : Int32 → MI → MJ → Prop) : Prop :=
  (if (I 177 49) = 0 then f_Model_refuse (1 : Int32) I J (fun r9 I9 J9 => Q r9 I9 J9) else f_Model_isPlace x1 I J (fun r14 I14 J14 => (if r14 = 0 then f_Model_refuse (2 : Int32) I14 J14 (fun r32 I32 J32 => Q r32 I32 J32) else f_Model_put x1 (17 : Int32) I14 J14 (fun r24 I24 J24 => Q r24 I24 J24))))
set_option maxRecDepth 100000 in
set_option maxHeartbeats 4000000 in
theorem w_Model_guess_b0 {Γ : Ctx} {Q : Int32 → MI → MJ → Prop} {x1 : Int32}  (X : Cx Γ cX11_guess 2 RX11 3) (Y : Rt Γ (Pi Q) (Option.some Jvm.ClassFile.FieldType.int))   {I : MI} {J : MJ} (h : f_Model_guess x1 I J Q) : Wp Γ 2 0 [(0, .ref (ad Γ 177)), (1, .int x1)] [] I J := by
  unfold f_Model_guess at h
  refine wp_aload_n X dX11_guess_0 0 rfl ?_
  refine gf_X11_388 X sh_177 dX11_guess_1 ?_
  refine wp_if_ne (tgt := 13) X dX11_guess_4 (by decide) (fun hc => ?_) (fun hc => ?_)
  · have h := ite_f h hc
    refine wp_iload_n X dX11_guess_13 1 rfl ?_
    refine cs_Model_isPlace X dX11_guess_14 ml_X11_145  h (Nat.le_of_ble_eq_true rfl) (by decide) (fun r14 I14 J14 h => ?_)
    refine wp_if_eq (tgt := 30) X dX11_guess_17 (by decide) (fun hc => ?_) (fun hc => ?_)
    · have h := ite_t h hc
      refine wp_aload_n X dX11_guess_30 0 rfl ?_
      refine wp_iconst X dX11_guess_31 ic_2 ?_
      refine cv_Model_refuse X dX11_guess_32 ml_X11_219  h (Nat.le_of_ble_eq_true rfl) (by decide) (fun r32 I32 J32 h => ?_)
      exact wp_iret X Y dX11_guess_35 ⟨_, rfl, h⟩
    · have h := ite_f h hc
      refine wp_aload_n X dX11_guess_20 0 rfl ?_
      refine wp_iload_n X dX11_guess_21 1 rfl ?_
      refine wp_bipush X dX11_guess_22 bi_17 ?_
      refine cv_Model_put X dX11_guess_24 ml_X11_282  h (Nat.le_of_ble_eq_true rfl) (by decide) (fun r24 I24 J24 h => ?_)
      refine wp_goto (tgt := 35) X dX11_guess_27 (by decide) ?_
      exact wp_iret X Y dX11_guess_35 ⟨_, rfl, h⟩
  · have h := ite_t h hc
    refine wp_aload_n X dX11_guess_7 0 rfl ?_
    refine wp_iconst X dX11_guess_8 ic_1 ?_
    refine cv_Model_refuse X dX11_guess_9 ml_X11_219  h (Nat.le_of_ble_eq_true rfl) (by decide) (fun r9 I9 J9 h => ?_)
    exact wp_iret X Y dX11_guess_12 ⟨_, rfl, h⟩

theorem c_Model_guess {l : Launch} {g : GE} (hg : Inj g) {I : MI} {J : MJ} {Q : Int32 → MI → MJ → Prop} {x1 : Int32}  (h : f_Model_guess x1 I J Q) : Cm l g yX11_guess cX11_guess 2 (Option.some Jvm.ClassFile.FieldType.int) 3 [.ref (g.1 177), .int x1] I J (Pi Q) := by
  refine Cm.of (As := fun ad => [.ref (ad 177), .int x1]) hg pn_X11 (Nat.le_of_ble_eq_true rfl) ?_
  exact (fun Γ _ _ X Y => w_Model_guess_b0 X Y  h)
theorem cv_Model_guess {Γ : Ctx} {cc : ByteArray} {nL d pc index : Nat} {own : String} {L : List (Nat × Value)} {rest : List Value} {I : MI} {J : MJ} {Q : Int32 → MI → MJ → Prop} {x1 : Int32} (X : Cx Γ cc nL own d) (hd : decode cc pc = .ok (.invokevirtual index, 3)) (hlink : Cond.methodLink own index yX11_guess ∈ TT)  (h : f_Model_guess x1 I J Q) (hrest : (rest.map fun v => v.category).sum ≤ 8) (hdd : 3 + 1 ≤ d) (kk : ∀ (r : Int32) (I' : MI) (J' : MJ), Q r I' J' → Wp Γ nL (pc + 3) L (.int r :: rest) I' J') : Wp Γ nL pc L (.int x1 :: .ref (ad Γ 177) :: rest) I J :=
  wp_callV (As := [.int x1]) (rest := rest) (T := TX11) (N := 62) X hd hlink mv_X11_guess sh_177 (by decide) rfl (c_Model_guess X.inj  h) rfl rfl hrest hdd (fun v I' J' hv => by obtain ⟨r, rfl, hq⟩ := hv; exact kk r I' J' hq)
theorem dX11_ahead_0 : decode cX11_ahead 0 = .ok (.aload_n 0, 1) := by decide +kernel
theorem dX11_ahead_1 : decode cX11_ahead 1 = .ok (.getfield 388, 3) := by decide +kernel
theorem dX11_ahead_4 : decode cX11_ahead 4 = .ok (.ifCond .eq 24, 3) := by decide +kernel
theorem dX11_ahead_7 : decode cX11_ahead 7 = .ok (.iload_n 1, 1) := by decide +kernel
theorem dX11_ahead_8 : decode cX11_ahead 8 = .ok (.ifCond .lt 20, 3) := by decide +kernel
theorem dX11_ahead_11 : decode cX11_ahead 11 = .ok (.iload_n 1, 1) := by decide +kernel
theorem dX11_ahead_12 : decode cX11_ahead 12 = .ok (.aload_n 0, 1) := by decide +kernel
theorem dX11_ahead_13 : decode cX11_ahead 13 = .ok (.getfield 367, 3) := by decide +kernel
theorem dX11_ahead_16 : decode cX11_ahead 16 = .ok (.if_icmp .ge 12, 3) := by decide +kernel
theorem dX11_ahead_19 : decode cX11_ahead 19 = .ok (.aload_n 0, 1) := by decide +kernel
theorem dX11_ahead_20 : decode cX11_ahead 20 = .ok (.getfield 123, 3) := by decide +kernel
theorem dX11_ahead_23 : decode cX11_ahead 23 = .ok (.iload_n 1, 1) := by decide +kernel
theorem dX11_ahead_24 : decode cX11_ahead 24 = .ok (.laload, 1) := by decide +kernel
theorem dX11_ahead_25 : decode cX11_ahead 25 = .ok (.goto 6, 3) := by decide +kernel
theorem dX11_ahead_28 : decode cX11_ahead 28 = .ok (.ldc2_w 261, 3) := by decide +kernel
theorem dX11_ahead_31 : decode cX11_ahead 31 = .ok (.lreturn, 1) := by decide +kernel
def f_Model_ahead (x1 : Int32) (I : MI) (J : MJ) (Q : Int64 → MI → MJ → Prop) : Prop :=
  (if (I 177 49) = 0 then Q (-1) I J else (if x1 < 0 then Q (-1) I J else (if (I 177 53) ≤ x1 then Q (-1) I J else vp_in x1 32 ∧ Q (J 215 x1.toNatClampNeg) I J)))
set_option maxRecDepth 100000 in
set_option maxHeartbeats 4000000 in
theorem w_Model_ahead_b0 {Γ : Ctx} {Q : Int64 → MI → MJ → Prop} {x1 : Int32}  (X : Cx Γ cX11_ahead 2 RX11 0) (Y : Rt Γ (Pl Q) (Option.some Jvm.ClassFile.FieldType.long))   {I : MI} {J : MJ} (h : f_Model_ahead x1 I J Q) : Wp Γ 2 0 [(0, .ref (ad Γ 177)), (1, .int x1)] [] I J := by
  unfold f_Model_ahead at h
  refine wp_aload_n X dX11_ahead_0 0 rfl ?_
  refine gf_X11_388 X sh_177 dX11_ahead_1 ?_
  refine wp_if_eq (tgt := 28) X dX11_ahead_4 (by decide) (fun hc => ?_) (fun hc => ?_)
  · have h := ite_t h hc
    refine wp_ldc2 X kl_X11_261 dX11_ahead_28 ?_
    exact wp_lret X Y dX11_ahead_31 ⟨_, rfl, h⟩
  · have h := ite_f h hc
    refine wp_iload_n X dX11_ahead_7 1 rfl ?_
    refine wp_if_lt (tgt := 28) X dX11_ahead_8 (by decide) (fun hc => ?_) (fun hc => ?_)
    · have h := ite_t h hc
      refine wp_ldc2 X kl_X11_261 dX11_ahead_28 ?_
      exact wp_lret X Y dX11_ahead_31 ⟨_, rfl, h⟩
    · have h := ite_f h hc
      refine wp_iload_n X dX11_ahead_11 1 rfl ?_
      refine wp_aload_n X dX11_ahead_12 0 rfl ?_
      refine gf_X11_367 X sh_177 dX11_ahead_13 ?_
      refine wp_icmp_ge (tgt := 28) X dX11_ahead_16 (by decide) (fun hc => ?_) (fun hc => ?_)
      · have h := ite_t h hc
        refine wp_ldc2 X kl_X11_261 dX11_ahead_28 ?_
        exact wp_lret X Y dX11_ahead_31 ⟨_, rfl, h⟩
      · have h := ite_f h hc
        refine wp_aload_n X dX11_ahead_19 0 rfl ?_
        refine gf_X11_123 (o' := 215) X sh_177 rfl dX11_ahead_20 ?_
        refine wp_iload_n X dX11_ahead_23 1 rfl ?_
        obtain ⟨hb24, h⟩ := h
        refine wp_lald X sh_215 hb24 dX11_ahead_24 ?_
        refine wp_goto (tgt := 31) X dX11_ahead_25 (by decide) ?_
        exact wp_lret X Y dX11_ahead_31 ⟨_, rfl, h⟩

theorem c_Model_ahead {l : Launch} {g : GE} (hg : Inj g) {I : MI} {J : MJ} {Q : Int64 → MI → MJ → Prop} {x1 : Int32}  (h : f_Model_ahead x1 I J Q) : Cm l g yX11_ahead cX11_ahead 2 (Option.some Jvm.ClassFile.FieldType.long) 0 [.ref (g.1 177), .int x1] I J (Pl Q) := by
  refine Cm.of (As := fun ad => [.ref (ad 177), .int x1]) hg pn_X11 (Nat.le_of_ble_eq_true rfl) ?_
  exact (fun Γ _ _ X Y => w_Model_ahead_b0 X Y  h)
theorem cv_Model_ahead {Γ : Ctx} {cc : ByteArray} {nL d pc index : Nat} {own : String} {L : List (Nat × Value)} {rest : List Value} {I : MI} {J : MJ} {Q : Int64 → MI → MJ → Prop} {x1 : Int32} (X : Cx Γ cc nL own d) (hd : decode cc pc = .ok (.invokevirtual index, 3)) (hlink : Cond.methodLink own index yX11_ahead ∈ TT)  (h : f_Model_ahead x1 I J Q) (hrest : (rest.map fun v => v.category).sum ≤ 8) (hdd : 0 + 1 ≤ d) (kk : ∀ (r : Int64) (I' : MI) (J' : MJ), Q r I' J' → Wp Γ nL (pc + 3) L (.long r :: rest) I' J') : Wp Γ nL pc L (.int x1 :: .ref (ad Γ 177) :: rest) I J :=
  wp_callV (As := [.int x1]) (rest := rest) (T := TX11) (N := 62) X hd hlink mv_X11_ahead sh_177 (by decide) rfl (c_Model_ahead X.inj  h) rfl rfl hrest hdd (fun v I' J' hv => by obtain ⟨r, rfl, hq⟩ := hv; exact kk r I' J' hq)
theorem dX11_behind_0 : decode cX11_behind 0 = .ok (.aload_n 0, 1) := by decide +kernel
theorem dX11_behind_1 : decode cX11_behind 1 = .ok (.getfield 388, 3) := by decide +kernel
theorem dX11_behind_4 : decode cX11_behind 4 = .ok (.ifCond .eq 24, 3) := by decide +kernel
theorem dX11_behind_7 : decode cX11_behind 7 = .ok (.iload_n 1, 1) := by decide +kernel
theorem dX11_behind_8 : decode cX11_behind 8 = .ok (.ifCond .lt 20, 3) := by decide +kernel
theorem dX11_behind_11 : decode cX11_behind 11 = .ok (.iload_n 1, 1) := by decide +kernel
theorem dX11_behind_12 : decode cX11_behind 12 = .ok (.aload_n 0, 1) := by decide +kernel
theorem dX11_behind_13 : decode cX11_behind 13 = .ok (.getfield 360, 3) := by decide +kernel
theorem dX11_behind_16 : decode cX11_behind 16 = .ok (.if_icmp .ge 12, 3) := by decide +kernel
theorem dX11_behind_19 : decode cX11_behind 19 = .ok (.aload_n 0, 1) := by decide +kernel
theorem dX11_behind_20 : decode cX11_behind 20 = .ok (.getfield 126, 3) := by decide +kernel
theorem dX11_behind_23 : decode cX11_behind 23 = .ok (.iload_n 1, 1) := by decide +kernel
theorem dX11_behind_24 : decode cX11_behind 24 = .ok (.laload, 1) := by decide +kernel
theorem dX11_behind_25 : decode cX11_behind 25 = .ok (.goto 6, 3) := by decide +kernel
theorem dX11_behind_28 : decode cX11_behind 28 = .ok (.ldc2_w 261, 3) := by decide +kernel
theorem dX11_behind_31 : decode cX11_behind 31 = .ok (.lreturn, 1) := by decide +kernel
def f_Model_behind (x1 : Int32) (I : MI) (J : MJ) (Q : Int64 → MI → MJ → Prop) : Prop :=
  (if (I 177 49) = 0 then Q (-1) I J else (if x1 < 0 then Q (-1) I J else (if (I 177 54) ≤ x1 then Q (-1) I J else vp_in x1 64 ∧ Q (J 216 x1.toNatClampNeg) I J)))
set_option maxRecDepth 100000 in
set_option maxHeartbeats 4000000 in
theorem w_Model_behind_b0 {Γ : Ctx} {Q : Int64 → MI → MJ → Prop} {x1 : Int32}  (X : Cx Γ cX11_behind 2 RX11 0) (Y : Rt Γ (Pl Q) (Option.some Jvm.ClassFile.FieldType.long))   {I : MI} {J : MJ} (h : f_Model_behind x1 I J Q) : Wp Γ 2 0 [(0, .ref (ad Γ 177)), (1, .int x1)] [] I J := by
  unfold f_Model_behind at h
  refine wp_aload_n X dX11_behind_0 0 rfl ?_
  refine gf_X11_388 X sh_177 dX11_behind_1 ?_
  refine wp_if_eq (tgt := 28) X dX11_behind_4 (by decide) (fun hc => ?_) (fun hc => ?_)
  · have h := ite_t h hc
    refine wp_ldc2 X kl_X11_261 dX11_behind_28 ?_
    exact wp_lret X Y dX11_behind_31 ⟨_, rfl, h⟩
  · have h := ite_f h hc
    refine wp_iload_n X dX11_behind_7 1 rfl ?_
    refine wp_if_lt (tgt := 28) X dX11_behind_8 (by decide) (fun hc => ?_) (fun hc => ?_)
    · have h := ite_t h hc
      refine wp_ldc2 X kl_X11_261 dX11_behind_28 ?_
      exact wp_lret X Y dX11_behind_31 ⟨_, rfl, h⟩
    · have h := ite_f h hc
      refine wp_iload_n X dX11_behind_11 1 rfl ?_
      refine wp_aload_n X dX11_behind_12 0 rfl ?_
      refine gf_X11_360 X sh_177 dX11_behind_13 ?_
      refine wp_icmp_ge (tgt := 28) X dX11_behind_16 (by decide) (fun hc => ?_) (fun hc => ?_)
      · have h := ite_t h hc
        refine wp_ldc2 X kl_X11_261 dX11_behind_28 ?_
        exact wp_lret X Y dX11_behind_31 ⟨_, rfl, h⟩
      · have h := ite_f h hc
        refine wp_aload_n X dX11_behind_19 0 rfl ?_
        refine gf_X11_126 (o' := 216) X sh_177 rfl dX11_behind_20 ?_
        refine wp_iload_n X dX11_behind_23 1 rfl ?_
        obtain ⟨hb24, h⟩ := h
        refine wp_lald X sh_216 hb24 dX11_behind_24 ?_
        refine wp_goto (tgt := 31) X dX11_behind_25 (by decide) ?_
        exact wp_lret X Y dX11_behind_31 ⟨_, rfl, h⟩

theorem c_Model_behind {l : Launch} {g : GE} (hg : Inj g) {I : MI} {J : MJ} {Q : Int64 → MI → MJ → Prop} {x1 : Int32}  (h : f_Model_behind x1 I J Q) : Cm l g yX11_behind cX11_behind 2 (Option.some Jvm.ClassFile.FieldType.long) 0 [.ref (g.1 177), .int x1] I J (Pl Q) := by
  refine Cm.of (As := fun ad => [.ref (ad 177), .int x1]) hg pn_X11 (Nat.le_of_ble_eq_true rfl) ?_
  exact (fun Γ _ _ X Y => w_Model_behind_b0 X Y  h)
theorem cv_Model_behind {Γ : Ctx} {cc : ByteArray} {nL d pc index : Nat} {own : String} {L : List (Nat × Value)} {rest : List Value} {I : MI} {J : MJ} {Q : Int64 → MI → MJ → Prop} {x1 : Int32} (X : Cx Γ cc nL own d) (hd : decode cc pc = .ok (.invokevirtual index, 3)) (hlink : Cond.methodLink own index yX11_behind ∈ TT)  (h : f_Model_behind x1 I J Q) (hrest : (rest.map fun v => v.category).sum ≤ 8) (hdd : 0 + 1 ≤ d) (kk : ∀ (r : Int64) (I' : MI) (J' : MJ), Q r I' J' → Wp Γ nL (pc + 3) L (.long r :: rest) I' J') : Wp Γ nL pc L (.int x1 :: .ref (ad Γ 177) :: rest) I J :=
  wp_callV (As := [.int x1]) (rest := rest) (T := TX11) (N := 62) X hd hlink mv_X11_behind sh_177 (by decide) rfl (c_Model_behind X.inj  h) rfl rfl hrest hdd (fun v I' J' hv => by obtain ⟨r, rfl, hq⟩ := hv; exact kk r I' J' hq)
theorem dX11_cell_0 : decode cX11_cell 0 = .ok (.aload_n 0, 1) := by decide +kernel
theorem dX11_cell_1 : decode cX11_cell 1 = .ok (.getfield 388, 3) := by decide +kernel
theorem dX11_cell_4 : decode cX11_cell 4 = .ok (.ifCond .eq 43, 3) := by decide +kernel
theorem dX11_cell_7 : decode cX11_cell 7 = .ok (.iload_n 1, 1) := by decide +kernel
theorem dX11_cell_8 : decode cX11_cell 8 = .ok (.ifCond .lt 39, 3) := by decide +kernel
theorem dX11_cell_11 : decode cX11_cell 11 = .ok (.iload_n 1, 1) := by decide +kernel
theorem dX11_cell_12 : decode cX11_cell 12 = .ok (.aload_n 0, 1) := by decide +kernel
theorem dX11_cell_13 : decode cX11_cell 13 = .ok (.getfield 367, 3) := by decide +kernel
theorem dX11_cell_16 : decode cX11_cell 16 = .ok (.if_icmp .ge 31, 3) := by decide +kernel
theorem dX11_cell_19 : decode cX11_cell 19 = .ok (.iload_n 3, 1) := by decide +kernel
theorem dX11_cell_20 : decode cX11_cell 20 = .ok (.ifCond .lt 27, 3) := by decide +kernel
theorem dX11_cell_23 : decode cX11_cell 23 = .ok (.iload_n 3, 1) := by decide +kernel
theorem dX11_cell_24 : decode cX11_cell 24 = .ok (.aload_n 0, 1) := by decide +kernel
theorem dX11_cell_25 : decode cX11_cell 25 = .ok (.getfield 360, 3) := by decide +kernel
theorem dX11_cell_28 : decode cX11_cell 28 = .ok (.if_icmp .ge 19, 3) := by decide +kernel
theorem dX11_cell_31 : decode cX11_cell 31 = .ok (.iload_n 2, 1) := by decide +kernel
theorem dX11_cell_32 : decode cX11_cell 32 = .ok (.iconst (-1), 1) := by decide +kernel
theorem dX11_cell_33 : decode cX11_cell 33 = .ok (.if_icmp .lt 14, 3) := by decide +kernel
theorem dX11_cell_36 : decode cX11_cell 36 = .ok (.iload_n 2, 1) := by decide +kernel
theorem dX11_cell_37 : decode cX11_cell 37 = .ok (.aload_n 0, 1) := by decide +kernel
theorem dX11_cell_38 : decode cX11_cell 38 = .ok (.getfield 36, 3) := by decide +kernel
theorem dX11_cell_41 : decode cX11_cell 41 = .ok (.bipush 16, 2) := by decide +kernel
theorem dX11_cell_43 : decode cX11_cell 43 = .ok (.iaload, 1) := by decide +kernel
theorem dX11_cell_44 : decode cX11_cell 44 = .ok (.if_icmp .lt 5, 3) := by decide +kernel
theorem dX11_cell_47 : decode cX11_cell 47 = .ok (.iconst (-1), 1) := by decide +kernel
theorem dX11_cell_48 : decode cX11_cell 48 = .ok (.ireturn, 1) := by decide +kernel
theorem dX11_cell_49 : decode cX11_cell 49 = .ok (.aload_n 0, 1) := by decide +kernel
theorem dX11_cell_50 : decode cX11_cell 50 = .ok (.aload_n 0, 1) := by decide +kernel
theorem dX11_cell_51 : decode cX11_cell 51 = .ok (.getfield 123, 3) := by decide +kernel
theorem dX11_cell_54 : decode cX11_cell 54 = .ok (.iload_n 1, 1) := by decide +kernel
theorem dX11_cell_55 : decode cX11_cell 55 = .ok (.laload, 1) := by decide +kernel
theorem dX11_cell_56 : decode cX11_cell 56 = .ok (.iload_n 2, 1) := by decide +kernel
theorem dX11_cell_57 : decode cX11_cell 57 = .ok (.aload_n 0, 1) := by decide +kernel
theorem dX11_cell_58 : decode cX11_cell 58 = .ok (.getfield 126, 3) := by decide +kernel
theorem dX11_cell_61 : decode cX11_cell 61 = .ok (.iload_n 3, 1) := by decide +kernel
theorem dX11_cell_62 : decode cX11_cell 62 = .ok (.laload, 1) := by decide +kernel
theorem dX11_cell_63 : decode cX11_cell 63 = .ok (.iconst 0, 1) := by decide +kernel
theorem dX11_cell_64 : decode cX11_cell 64 = .ok (.invokevirtual 363, 3) := by decide +kernel
theorem dX11_cell_67 : decode cX11_cell 67 = .ok (.ireturn, 1) := by decide +kernel
def f_Model_cell (x1 : Int32) (x2 : Int32) (x3 : Int32) (I : MI) (J : MJ) (Q : Int32 → MI → MJ → Prop) : Prop :=
  (if (I 177 49) = 0 then Q (-1) I J else (if x1 < 0 then Q (-1) I J else (if (I 177 53) ≤ x1 then Q (-1) I J else (if x3 < 0 then Q (-1) I J else (if (I 177 54) ≤ x3 then Q (-1) I J else (if x2 < (-1) then Q (-1) I J else vp_in 16 20 ∧ (if x2 < (I 186 (16 : Int32).toNatClampNeg) then vp_in x1 32 ∧ vp_in x3 64 ∧ f_Model_taught (J 215 x1.toNatClampNeg) x2 (J 216 x3.toNatClampNeg) (0 : Int32) I J (fun r64 I64 J64 => Q r64 I64 J64) else Q (-1) I J)))))))
set_option maxRecDepth 100000 in
set_option maxHeartbeats 4000000 in
theorem w_Model_cell_b0 {Γ : Ctx} {Q : Int32 → MI → MJ → Prop} {x1 : Int32} {x2 : Int32} {x3 : Int32}  (X : Cx Γ cX11_cell 4 RX11 4) (Y : Rt Γ (Pi Q) (Option.some Jvm.ClassFile.FieldType.int))   {I : MI} {J : MJ} (h : f_Model_cell x1 x2 x3 I J Q) : Wp Γ 4 0 [(0, .ref (ad Γ 177)), (1, .int x1), (2, .int x2), (3, .int x3)] [] I J := by
  unfold f_Model_cell at h
  refine wp_aload_n X dX11_cell_0 0 rfl ?_
  refine gf_X11_388 X sh_177 dX11_cell_1 ?_
  refine wp_if_eq (tgt := 47) X dX11_cell_4 (by decide) (fun hc => ?_) (fun hc => ?_)
  · have h := ite_t h hc
    refine wp_iconst X dX11_cell_47 ic_m1 ?_
    exact wp_iret X Y dX11_cell_48 ⟨_, rfl, h⟩
  · have h := ite_f h hc
    refine wp_iload_n X dX11_cell_7 1 rfl ?_
    refine wp_if_lt (tgt := 47) X dX11_cell_8 (by decide) (fun hc => ?_) (fun hc => ?_)
    · have h := ite_t h hc
      refine wp_iconst X dX11_cell_47 ic_m1 ?_
      exact wp_iret X Y dX11_cell_48 ⟨_, rfl, h⟩
    · have h := ite_f h hc
      refine wp_iload_n X dX11_cell_11 1 rfl ?_
      refine wp_aload_n X dX11_cell_12 0 rfl ?_
      refine gf_X11_367 X sh_177 dX11_cell_13 ?_
      refine wp_icmp_ge (tgt := 47) X dX11_cell_16 (by decide) (fun hc => ?_) (fun hc => ?_)
      · have h := ite_t h hc
        refine wp_iconst X dX11_cell_47 ic_m1 ?_
        exact wp_iret X Y dX11_cell_48 ⟨_, rfl, h⟩
      · have h := ite_f h hc
        refine wp_iload_n X dX11_cell_19 3 rfl ?_
        refine wp_if_lt (tgt := 47) X dX11_cell_20 (by decide) (fun hc => ?_) (fun hc => ?_)
        · have h := ite_t h hc
          refine wp_iconst X dX11_cell_47 ic_m1 ?_
          exact wp_iret X Y dX11_cell_48 ⟨_, rfl, h⟩
        · have h := ite_f h hc
          refine wp_iload_n X dX11_cell_23 3 rfl ?_
          refine wp_aload_n X dX11_cell_24 0 rfl ?_
          refine gf_X11_360 X sh_177 dX11_cell_25 ?_
          refine wp_icmp_ge (tgt := 47) X dX11_cell_28 (by decide) (fun hc => ?_) (fun hc => ?_)
          · have h := ite_t h hc
            refine wp_iconst X dX11_cell_47 ic_m1 ?_
            exact wp_iret X Y dX11_cell_48 ⟨_, rfl, h⟩
          · have h := ite_f h hc
            refine wp_iload_n X dX11_cell_31 2 rfl ?_
            refine wp_iconst X dX11_cell_32 ic_m1 ?_
            refine wp_icmp_lt (tgt := 47) X dX11_cell_33 (by decide) (fun hc => ?_) (fun hc => ?_)
            · have h := ite_t h hc
              refine wp_iconst X dX11_cell_47 ic_m1 ?_
              exact wp_iret X Y dX11_cell_48 ⟨_, rfl, h⟩
            · have h := ite_f h hc
              refine wp_iload_n X dX11_cell_36 2 rfl ?_
              refine wp_aload_n X dX11_cell_37 0 rfl ?_
              refine gf_X11_36 (o' := 186) X sh_177 rfl dX11_cell_38 ?_
              refine wp_bipush X dX11_cell_41 bi_16 ?_
              obtain ⟨hb43, h⟩ := h
              refine wp_iald X sh_186 hb43 dX11_cell_43 ?_
              refine wp_icmp_lt (tgt := 49) X dX11_cell_44 (by decide) (fun hc => ?_) (fun hc => ?_)
              · have h := ite_t h hc
                refine wp_aload_n X dX11_cell_49 0 rfl ?_
                refine wp_aload_n X dX11_cell_50 0 rfl ?_
                refine gf_X11_123 (o' := 215) X sh_177 rfl dX11_cell_51 ?_
                refine wp_iload_n X dX11_cell_54 1 rfl ?_
                obtain ⟨hb55, h⟩ := h
                refine wp_lald X sh_215 hb55 dX11_cell_55 ?_
                refine wp_iload_n X dX11_cell_56 2 rfl ?_
                refine wp_aload_n X dX11_cell_57 0 rfl ?_
                refine gf_X11_126 (o' := 216) X sh_177 rfl dX11_cell_58 ?_
                refine wp_iload_n X dX11_cell_61 3 rfl ?_
                obtain ⟨hb62, h⟩ := h
                refine wp_lald X sh_216 hb62 dX11_cell_62 ?_
                refine wp_iconst X dX11_cell_63 ic_0 ?_
                refine cv_Model_taught X dX11_cell_64 ml_X11_363  h (Nat.le_of_ble_eq_true rfl) (by decide) (fun r64 I64 J64 h => ?_)
                exact wp_iret X Y dX11_cell_67 ⟨_, rfl, h⟩
              · have h := ite_f h hc
                refine wp_iconst X dX11_cell_47 ic_m1 ?_
                exact wp_iret X Y dX11_cell_48 ⟨_, rfl, h⟩

theorem c_Model_cell {l : Launch} {g : GE} (hg : Inj g) {I : MI} {J : MJ} {Q : Int32 → MI → MJ → Prop} {x1 : Int32} {x2 : Int32} {x3 : Int32}  (h : f_Model_cell x1 x2 x3 I J Q) : Cm l g yX11_cell cX11_cell 4 (Option.some Jvm.ClassFile.FieldType.int) 4 [.ref (g.1 177), .int x1, .int x2, .int x3] I J (Pi Q) := by
  refine Cm.of (As := fun ad => [.ref (ad 177), .int x1, .int x2, .int x3]) hg pn_X11 (Nat.le_of_ble_eq_true rfl) ?_
  exact (fun Γ _ _ X Y => w_Model_cell_b0 X Y  h)
theorem cv_Model_cell {Γ : Ctx} {cc : ByteArray} {nL d pc index : Nat} {own : String} {L : List (Nat × Value)} {rest : List Value} {I : MI} {J : MJ} {Q : Int32 → MI → MJ → Prop} {x1 : Int32} {x2 : Int32} {x3 : Int32} (X : Cx Γ cc nL own d) (hd : decode cc pc = .ok (.invokevirtual index, 3)) (hlink : Cond.methodLink own index yX11_cell ∈ TT)  (h : f_Model_cell x1 x2 x3 I J Q) (hrest : (rest.map fun v => v.category).sum ≤ 8) (hdd : 4 + 1 ≤ d) (kk : ∀ (r : Int32) (I' : MI) (J' : MJ), Q r I' J' → Wp Γ nL (pc + 3) L (.int r :: rest) I' J') : Wp Γ nL pc L (.int x3 :: .int x2 :: .int x1 :: .ref (ad Γ 177) :: rest) I J :=
  wp_callV (As := [.int x1, .int x2, .int x3]) (rest := rest) (T := TX11) (N := 62) X hd hlink mv_X11_cell sh_177 (by decide) rfl (c_Model_cell X.inj  h) rfl rfl hrest hdd (fun v I' J' hv => by obtain ⟨r, rfl, hq⟩ := hv; exact kk r I' J' hq)
theorem dX11_told_0 : decode cX11_told 0 = .ok (.aload_n 0, 1) := by decide +kernel
theorem dX11_told_1 : decode cX11_told 1 = .ok (.getfield 388, 3) := by decide +kernel
theorem dX11_told_4 : decode cX11_told 4 = .ok (.ifCond .eq 10, 3) := by decide +kernel
theorem dX11_told_7 : decode cX11_told 7 = .ok (.aload_n 0, 1) := by decide +kernel
theorem dX11_told_8 : decode cX11_told 8 = .ok (.getfield 392, 3) := by decide +kernel
theorem dX11_told_11 : decode cX11_told 11 = .ok (.goto 4, 3) := by decide +kernel
theorem dX11_told_14 : decode cX11_told 14 = .ok (.lconst 0, 1) := by decide +kernel
theorem dX11_told_15 : decode cX11_told 15 = .ok (.lreturn, 1) := by decide +kernel
def f_Model_told (I : MI) (J : MJ) (Q : Int64 → MI → MJ → Prop) : Prop :=
  (if (I 177 49) = 0 then Q 0 I J else Q (J 177 55) I J)
set_option maxRecDepth 100000 in
set_option maxHeartbeats 4000000 in
theorem w_Model_told_b0 {Γ : Ctx} {Q : Int64 → MI → MJ → Prop}   (X : Cx Γ cX11_told 1 RX11 0) (Y : Rt Γ (Pl Q) (Option.some Jvm.ClassFile.FieldType.long))   {I : MI} {J : MJ} (h : f_Model_told  I J Q) : Wp Γ 1 0 [(0, .ref (ad Γ 177))] [] I J := by
  unfold f_Model_told at h
  refine wp_aload_n X dX11_told_0 0 rfl ?_
  refine gf_X11_388 X sh_177 dX11_told_1 ?_
  refine wp_if_eq (tgt := 14) X dX11_told_4 (by decide) (fun hc => ?_) (fun hc => ?_)
  · have h := ite_t h hc
    refine wp_lconst X dX11_told_14 lc_0 ?_
    exact wp_lret X Y dX11_told_15 ⟨_, rfl, h⟩
  · have h := ite_f h hc
    refine wp_aload_n X dX11_told_7 0 rfl ?_
    refine gf_X11_392 X sh_177 dX11_told_8 ?_
    refine wp_goto (tgt := 15) X dX11_told_11 (by decide) ?_
    exact wp_lret X Y dX11_told_15 ⟨_, rfl, h⟩

theorem c_Model_told {l : Launch} {g : GE} (hg : Inj g) {I : MI} {J : MJ} {Q : Int64 → MI → MJ → Prop}   (h : f_Model_told  I J Q) : Cm l g yX11_told cX11_told 1 (Option.some Jvm.ClassFile.FieldType.long) 0 [.ref (g.1 177)] I J (Pl Q) := by
  refine Cm.of (As := fun ad => [.ref (ad 177)]) hg pn_X11 (Nat.le_of_ble_eq_true rfl) ?_
  exact (fun Γ _ _ X Y => w_Model_told_b0 X Y  h)
theorem cv_Model_told {Γ : Ctx} {cc : ByteArray} {nL d pc index : Nat} {own : String} {L : List (Nat × Value)} {rest : List Value} {I : MI} {J : MJ} {Q : Int64 → MI → MJ → Prop}  (X : Cx Γ cc nL own d) (hd : decode cc pc = .ok (.invokevirtual index, 3)) (hlink : Cond.methodLink own index yX11_told ∈ TT)  (h : f_Model_told  I J Q) (hrest : (rest.map fun v => v.category).sum ≤ 8) (hdd : 0 + 1 ≤ d) (kk : ∀ (r : Int64) (I' : MI) (J' : MJ), Q r I' J' → Wp Γ nL (pc + 3) L (.long r :: rest) I' J') : Wp Γ nL pc L (.ref (ad Γ 177) :: rest) I J :=
  wp_callV (As := []) (rest := rest) (T := TX11) (N := 62) X hd hlink mv_X11_told sh_177 (by decide) rfl (c_Model_told X.inj  h) rfl rfl hrest hdd (fun v I' J' hv => by obtain ⟨r, rfl, hq⟩ := hv; exact kk r I' J' hq)
theorem dX11_guesses_0 : decode cX11_guesses 0 = .ok (.aload_n 0, 1) := by decide +kernel
theorem dX11_guesses_1 : decode cX11_guesses 1 = .ok (.getfield 388, 3) := by decide +kernel
theorem dX11_guesses_4 : decode cX11_guesses 4 = .ok (.ifCond .eq 10, 3) := by decide +kernel
theorem dX11_guesses_7 : decode cX11_guesses 7 = .ok (.aload_n 0, 1) := by decide +kernel
theorem dX11_guesses_8 : decode cX11_guesses 8 = .ok (.getfield 382, 3) := by decide +kernel
theorem dX11_guesses_11 : decode cX11_guesses 11 = .ok (.goto 4, 3) := by decide +kernel
theorem dX11_guesses_14 : decode cX11_guesses 14 = .ok (.iconst 0, 1) := by decide +kernel
theorem dX11_guesses_15 : decode cX11_guesses 15 = .ok (.ireturn, 1) := by decide +kernel
def f_Model_guesses (I : MI) (J : MJ) (Q : Int32 → MI → MJ → Prop) : Prop :=
  (if (I 177 49) = 0 then Q 0 I J else Q (I 177 56) I J)
set_option maxRecDepth 100000 in
set_option maxHeartbeats 4000000 in
theorem w_Model_guesses_b0 {Γ : Ctx} {Q : Int32 → MI → MJ → Prop}   (X : Cx Γ cX11_guesses 1 RX11 0) (Y : Rt Γ (Pi Q) (Option.some Jvm.ClassFile.FieldType.int))   {I : MI} {J : MJ} (h : f_Model_guesses  I J Q) : Wp Γ 1 0 [(0, .ref (ad Γ 177))] [] I J := by
  unfold f_Model_guesses at h
  refine wp_aload_n X dX11_guesses_0 0 rfl ?_
  refine gf_X11_388 X sh_177 dX11_guesses_1 ?_
  refine wp_if_eq (tgt := 14) X dX11_guesses_4 (by decide) (fun hc => ?_) (fun hc => ?_)
  · have h := ite_t h hc
    refine wp_iconst X dX11_guesses_14 ic_0 ?_
    exact wp_iret X Y dX11_guesses_15 ⟨_, rfl, h⟩
  · have h := ite_f h hc
    refine wp_aload_n X dX11_guesses_7 0 rfl ?_
    refine gf_X11_382 X sh_177 dX11_guesses_8 ?_
    refine wp_goto (tgt := 15) X dX11_guesses_11 (by decide) ?_
    exact wp_iret X Y dX11_guesses_15 ⟨_, rfl, h⟩

theorem c_Model_guesses {l : Launch} {g : GE} (hg : Inj g) {I : MI} {J : MJ} {Q : Int32 → MI → MJ → Prop}   (h : f_Model_guesses  I J Q) : Cm l g yX11_guesses cX11_guesses 1 (Option.some Jvm.ClassFile.FieldType.int) 0 [.ref (g.1 177)] I J (Pi Q) := by
  refine Cm.of (As := fun ad => [.ref (ad 177)]) hg pn_X11 (Nat.le_of_ble_eq_true rfl) ?_
  exact (fun Γ _ _ X Y => w_Model_guesses_b0 X Y  h)
theorem cv_Model_guesses {Γ : Ctx} {cc : ByteArray} {nL d pc index : Nat} {own : String} {L : List (Nat × Value)} {rest : List Value} {I : MI} {J : MJ} {Q : Int32 → MI → MJ → Prop}  (X : Cx Γ cc nL own d) (hd : decode cc pc = .ok (.invokevirtual index, 3)) (hlink : Cond.methodLink own index yX11_guesses ∈ TT)  (h : f_Model_guesses  I J Q) (hrest : (rest.map fun v => v.category).sum ≤ 8) (hdd : 0 + 1 ≤ d) (kk : ∀ (r : Int32) (I' : MI) (J' : MJ), Q r I' J' → Wp Γ nL (pc + 3) L (.int r :: rest) I' J') : Wp Γ nL pc L (.ref (ad Γ 177) :: rest) I J :=
  wp_callV (As := []) (rest := rest) (T := TX11) (N := 62) X hd hlink mv_X11_guesses sh_177 (by decide) rfl (c_Model_guesses X.inj  h) rfl rfl hrest hdd (fun v I' J' hv => by obtain ⟨r, rfl, hq⟩ := hv; exact kk r I' J' hq)
theorem dX11_isKnown_0 : decode cX11_isKnown 0 = .ok (.iconst 0, 1) := by decide +kernel
theorem dX11_isKnown_1 : decode cX11_isKnown 1 = .ok (.istore_n 3, 1) := by decide +kernel
theorem dX11_isKnown_2 : decode cX11_isKnown 2 = .ok (.iconst 0, 1) := by decide +kernel
theorem dX11_isKnown_3 : decode cX11_isKnown 3 = .ok (.istore 4, 2) := by decide +kernel
theorem dX11_isKnown_5 : decode cX11_isKnown 5 = .ok (.iload 4, 2) := by decide +kernel
theorem dX11_isKnown_7 : decode cX11_isKnown 7 = .ok (.aload_n 0, 1) := by decide +kernel
theorem dX11_isKnown_8 : decode cX11_isKnown 8 = .ok (.getfield 405, 3) := by decide +kernel
theorem dX11_isKnown_11 : decode cX11_isKnown 11 = .ok (.if_icmp .ge 31, 3) := by decide +kernel
theorem dX11_isKnown_14 : decode cX11_isKnown 14 = .ok (.iload_n 3, 1) := by decide +kernel
theorem dX11_isKnown_15 : decode cX11_isKnown 15 = .ok (.ifCond .ne 15, 3) := by decide +kernel
theorem dX11_isKnown_18 : decode cX11_isKnown 18 = .ok (.aload_n 0, 1) := by decide +kernel
theorem dX11_isKnown_19 : decode cX11_isKnown 19 = .ok (.getfield 129, 3) := by decide +kernel
theorem dX11_isKnown_22 : decode cX11_isKnown 22 = .ok (.iload 4, 2) := by decide +kernel
theorem dX11_isKnown_24 : decode cX11_isKnown 24 = .ok (.laload, 1) := by decide +kernel
theorem dX11_isKnown_25 : decode cX11_isKnown 25 = .ok (.lload_n 1, 1) := by decide +kernel
theorem dX11_isKnown_26 : decode cX11_isKnown 26 = .ok (.lcmp, 1) := by decide +kernel
theorem dX11_isKnown_27 : decode cX11_isKnown 27 = .ok (.ifCond .ne 7, 3) := by decide +kernel
theorem dX11_isKnown_30 : decode cX11_isKnown 30 = .ok (.iconst 1, 1) := by decide +kernel
theorem dX11_isKnown_31 : decode cX11_isKnown 31 = .ok (.goto 4, 3) := by decide +kernel
theorem dX11_isKnown_34 : decode cX11_isKnown 34 = .ok (.iconst 0, 1) := by decide +kernel
theorem dX11_isKnown_35 : decode cX11_isKnown 35 = .ok (.istore_n 3, 1) := by decide +kernel
theorem dX11_isKnown_36 : decode cX11_isKnown 36 = .ok (.iinc 4 1, 3) := by decide +kernel
theorem dX11_isKnown_39 : decode cX11_isKnown 39 = .ok (.goto (-34), 3) := by decide +kernel
theorem dX11_isKnown_42 : decode cX11_isKnown 42 = .ok (.iload_n 3, 1) := by decide +kernel
theorem dX11_isKnown_43 : decode cX11_isKnown 43 = .ok (.ireturn, 1) := by decide +kernel
def f_Model_isKnown_b35 (x4 : Int32) (s0 : Int32) (kh : Int32 → Int32 → MI → MJ → Prop) (I : MI) (J : MJ) : Prop :=
  ∀ t36 : Int32, t36 = x4 + 1 → kh s0 t36 I J
def f_Model_isKnown_b30 (x4 : Int32) (kh : Int32 → Int32 → MI → MJ → Prop) (I : MI) (J : MJ) : Prop :=
  f_Model_isKnown_b35 x4 1 kh I J
def f_Model_isKnown_L5 (x1 : Int64) (k42 : Int32 → MI → MJ → Prop) : Nat → Int32 → Int32 → MI → MJ → Prop
  | 0, _, _, _, _ => False
  | nf5 + 1, x3, x4, I, J =>
  (if (I 177 59) ≤ x4 then k42 x3 I J else (if x3 = 0 then vp_in x4 12 ∧ (if (J 217 x4.toNatClampNeg) = x1 then f_Model_isKnown_b30 x4 (f_Model_isKnown_L5 x1 k42 nf5) I J else f_Model_isKnown_b35 x4 0 (f_Model_isKnown_L5 x1 k42 nf5) I J) else f_Model_isKnown_b30 x4 (f_Model_isKnown_L5 x1 k42 nf5) I J))
def f_Model_isKnown (x1 : Int64) (I : MI) (J : MJ) (Q : Int32 → MI → MJ → Prop) : Prop :=
  ∃ n, f_Model_isKnown_L5 x1 (fun (z42_x3 : Int32) (I : MI) (J : MJ) => (z42_x3 = 0 ∨ z42_x3 = 1) ∧ Q z42_x3 I J) n 0 0 I J
set_option maxRecDepth 100000 in
set_option maxHeartbeats 4000000 in
theorem w_Model_isKnown_b35 {Γ : Ctx} {Q : Int32 → MI → MJ → Prop} {x1 : Int64} {x4 : Int32} {s0 : Int32} {kh : Int32 → Int32 → MI → MJ → Prop} (X : Cx Γ cX11_isKnown 5 RX11 0) (Y : Rt Γ (Pi Q) (Option.some Jvm.ClassFile.FieldType.boolean))  (hkh : ∀ (x3 : Int32) (x4 : Int32) (I : MI) (J : MJ), kh x3 x4 I J → Wp Γ 5 5 [(0, .ref (ad Γ 177)), (1, .long x1), (3, .int x3), (4, .int x4)] [] I J) {I : MI} {J : MJ} (h : f_Model_isKnown_b35 x4 s0 kh I J) : Wp Γ 5 35 [(0, .ref (ad Γ 177)), (1, .long x1), (4, .int x4)] [.int s0] I J := by
  unfold f_Model_isKnown_b35 at h
  refine wp_istore_n (L' := [(3, .int s0), (0, .ref (ad Γ 177)), (1, .long x1), (4, .int x4)]) X dX11_isKnown_35 rfl (by decide) rfl ?_
  obtain ⟨t36, et36⟩ : ∃ y : Int32, y = x4 + 1 := ⟨_, rfl⟩
  have h := h t36 et36
  refine wp_iinc (L' := [(4, .int t36), (3, .int s0), (0, .ref (ad Γ 177)), (1, .long x1)]) X dX11_isKnown_36 3 rfl (ii_1 et36) (by decide) rfl ?_
  refine wp_goto (tgt := 5) X dX11_isKnown_39 (by decide) ?_
  refine wp_sub X [2, 3, 1, 0] rfl ?_
  exact hkh _ _ _ _ h

set_option maxRecDepth 100000 in
set_option maxHeartbeats 4000000 in
theorem w_Model_isKnown_b30 {Γ : Ctx} {Q : Int32 → MI → MJ → Prop} {x1 : Int64} {x4 : Int32} {kh : Int32 → Int32 → MI → MJ → Prop} (X : Cx Γ cX11_isKnown 5 RX11 0) (Y : Rt Γ (Pi Q) (Option.some Jvm.ClassFile.FieldType.boolean))  (hkh : ∀ (x3 : Int32) (x4 : Int32) (I : MI) (J : MJ), kh x3 x4 I J → Wp Γ 5 5 [(0, .ref (ad Γ 177)), (1, .long x1), (3, .int x3), (4, .int x4)] [] I J) {I : MI} {J : MJ} (h : f_Model_isKnown_b30 x4 kh I J) : Wp Γ 5 30 [(0, .ref (ad Γ 177)), (1, .long x1), (4, .int x4)] [] I J := by
  unfold f_Model_isKnown_b30 at h
  refine wp_iconst X dX11_isKnown_30 ic_1 ?_
  refine wp_goto (tgt := 35) X dX11_isKnown_31 (by decide) ?_
  exact w_Model_isKnown_b35 X Y hkh h

set_option maxRecDepth 100000 in
set_option maxHeartbeats 4000000 in
theorem w_Model_isKnown_L5 {Γ : Ctx} {Q : Int32 → MI → MJ → Prop} {x1 : Int64} {k42 : Int32 → MI → MJ → Prop} (X : Cx Γ cX11_isKnown 5 RX11 0) (Y : Rt Γ (Pi Q) (Option.some Jvm.ClassFile.FieldType.boolean))  (hk42 : ∀ (x3 : Int32) (I : MI) (J : MJ), k42 x3 I J → Wp Γ 5 42 [(3, .int x3)] [] I J) : ∀ (n : Nat) (x3 : Int32) (x4 : Int32) (I : MI) (J : MJ), f_Model_isKnown_L5 x1 k42 n x3 x4 I J → Wp Γ 5 5 [(0, .ref (ad Γ 177)), (1, .long x1), (3, .int x3), (4, .int x4)] [] I J := by
  intro n
  induction n with
  | zero => intro x3 x4 I J h; exact absurd h (by simp [f_Model_isKnown_L5])
  | succ n ih =>
  intro x3 x4 I J h
  unfold f_Model_isKnown_L5 at h
  refine wp_iload X dX11_isKnown_5 3 rfl ?_
  refine wp_aload_n X dX11_isKnown_7 0 rfl ?_
  refine gf_X11_405 X sh_177 dX11_isKnown_8 ?_
  refine wp_icmp_ge (tgt := 42) X dX11_isKnown_11 (by decide) (fun hc => ?_) (fun hc => ?_)
  · have h := ite_t h hc
    refine wp_sub X [2] rfl ?_
    exact hk42 _ _ _ h
  · have h := ite_f h hc
    refine wp_iload_n X dX11_isKnown_14 2 rfl ?_
    refine wp_if_ne (tgt := 30) X dX11_isKnown_15 (by decide) (fun hc => ?_) (fun hc => ?_)
    · have h := ite_f h hc
      refine wp_sub X [0, 1, 3] rfl ?_
      exact w_Model_isKnown_b30 X Y ih h
    · have h := ite_t h hc
      refine wp_aload_n X dX11_isKnown_18 0 rfl ?_
      refine gf_X11_129 (o' := 217) X sh_177 rfl dX11_isKnown_19 ?_
      refine wp_iload X dX11_isKnown_22 3 rfl ?_
      obtain ⟨hb24, h⟩ := h
      refine wp_lald X sh_217 hb24 dX11_isKnown_24 ?_
      refine wp_lload_n X dX11_isKnown_25 1 rfl ?_
      refine wp_lcmp_ne (tgt := 34) X dX11_isKnown_26 dX11_isKnown_27 (by decide) (fun hc => ?_) (fun hc => ?_)
      · have h := ite_f h hc
        refine wp_iconst X dX11_isKnown_34 ic_0 ?_
        refine wp_sub X [0, 1, 3] rfl ?_
        exact w_Model_isKnown_b35 X Y ih h
      · have h := ite_t h hc
        refine wp_sub X [0, 1, 3] rfl ?_
        exact w_Model_isKnown_b30 X Y ih h

set_option maxRecDepth 100000 in
set_option maxHeartbeats 4000000 in
theorem w_Model_isKnown_b0 {Γ : Ctx} {Q : Int32 → MI → MJ → Prop} {x1 : Int64}  (X : Cx Γ cX11_isKnown 5 RX11 0) (Y : Rt Γ (Pi Q) (Option.some Jvm.ClassFile.FieldType.boolean))   {I : MI} {J : MJ} (h : f_Model_isKnown x1 I J Q) : Wp Γ 5 0 [(0, .ref (ad Γ 177)), (1, .long x1)] [] I J := by
  unfold f_Model_isKnown at h
  refine wp_iconst X dX11_isKnown_0 ic_0 ?_
  refine wp_istore_n (L' := [(3, .int 0), (0, .ref (ad Γ 177)), (1, .long x1)]) X dX11_isKnown_1 rfl (by decide) rfl ?_
  refine wp_iconst X dX11_isKnown_2 ic_0 ?_
  refine wp_istore (L' := [(4, .int 0), (3, .int 0), (0, .ref (ad Γ 177)), (1, .long x1)]) X dX11_isKnown_3 (by decide) rfl ?_
  obtain ⟨n, h⟩ := h
  refine wp_sub X [2, 3, 1, 0] rfl ?_
  refine w_Model_isKnown_L5 X Y  ?_ n _ _ _ _ h
  · intro z42_x3 I J h
    refine wp_iload_n X dX11_isKnown_42 0 rfl ?_
    exact wp_zret X Y dX11_isKnown_43 h.1 ⟨_, rfl, h.2⟩

theorem c_Model_isKnown {l : Launch} {g : GE} (hg : Inj g) {I : MI} {J : MJ} {Q : Int32 → MI → MJ → Prop} {x1 : Int64}  (h : f_Model_isKnown x1 I J Q) : Cm l g yX11_isKnown cX11_isKnown 5 (Option.some Jvm.ClassFile.FieldType.boolean) 0 [.ref (g.1 177), .long x1] I J (Pi Q) := by
  refine Cm.of (As := fun ad => [.ref (ad 177), .long x1]) hg pn_X11 (Nat.le_of_ble_eq_true rfl) ?_
  exact (fun Γ _ _ X Y => w_Model_isKnown_b0 X Y  h)
theorem cv_Model_isKnown {Γ : Ctx} {cc : ByteArray} {nL d pc index : Nat} {own : String} {L : List (Nat × Value)} {rest : List Value} {I : MI} {J : MJ} {Q : Int32 → MI → MJ → Prop} {x1 : Int64} (X : Cx Γ cc nL own d) (hd : decode cc pc = .ok (.invokevirtual index, 3)) (hlink : Cond.methodLink own index yX11_isKnown ∈ TT)  (h : f_Model_isKnown x1 I J Q) (hrest : (rest.map fun v => v.category).sum ≤ 8) (hdd : 0 + 1 ≤ d) (kk : ∀ (r : Int32) (I' : MI) (J' : MJ), Q r I' J' → Wp Γ nL (pc + 3) L (.int r :: rest) I' J') : Wp Γ nL pc L (.long x1 :: .ref (ad Γ 177) :: rest) I J :=
  wp_callV (As := [.long x1]) (rest := rest) (T := TX11) (N := 62) X hd hlink mv_X11_isKnown sh_177 (by decide) rfl (c_Model_isKnown X.inj  h) rfl rfl hrest hdd (fun v I' J' hv => by obtain ⟨r, rfl, hq⟩ := hv; exact kk r I' J' hq)
theorem dX11_know_0 : decode cX11_know 0 = .ok (.iload_n 1, 1) := by decide +kernel
theorem dX11_know_1 : decode cX11_know 1 = .ok (.invokestatic 145, 3) := by decide +kernel
theorem dX11_know_4 : decode cX11_know 4 = .ok (.ifCond .ne 9, 3) := by decide +kernel
theorem dX11_know_7 : decode cX11_know 7 = .ok (.aload_n 0, 1) := by decide +kernel
theorem dX11_know_8 : decode cX11_know 8 = .ok (.iconst 2, 1) := by decide +kernel
theorem dX11_know_9 : decode cX11_know 9 = .ok (.invokevirtual 219, 3) := by decide +kernel
theorem dX11_know_12 : decode cX11_know 12 = .ok (.ireturn, 1) := by decide +kernel
theorem dX11_know_13 : decode cX11_know 13 = .ok (.aload_n 0, 1) := by decide +kernel
theorem dX11_know_14 : decode cX11_know 14 = .ok (.getfield 7, 3) := by decide +kernel
theorem dX11_know_17 : decode cX11_know 17 = .ok (.iload_n 1, 1) := by decide +kernel
theorem dX11_know_18 : decode cX11_know 18 = .ok (.iaload, 1) := by decide +kernel
theorem dX11_know_19 : decode cX11_know 19 = .ok (.iconst 4, 1) := by decide +kernel
theorem dX11_know_20 : decode cX11_know 20 = .ok (.if_icmp .ge 22, 3) := by decide +kernel
theorem dX11_know_23 : decode cX11_know 23 = .ok (.aload_n 0, 1) := by decide +kernel
theorem dX11_know_24 : decode cX11_know 24 = .ok (.aload_n 0, 1) := by decide +kernel
theorem dX11_know_25 : decode cX11_know 25 = .ok (.getfield 7, 3) := by decide +kernel
theorem dX11_know_28 : decode cX11_know 28 = .ok (.iload_n 1, 1) := by decide +kernel
theorem dX11_know_29 : decode cX11_know 29 = .ok (.iaload, 1) := by decide +kernel
theorem dX11_know_30 : decode cX11_know 30 = .ok (.ifCond .ge 7, 3) := by decide +kernel
theorem dX11_know_33 : decode cX11_know 33 = .ok (.iconst 1, 1) := by decide +kernel
theorem dX11_know_34 : decode cX11_know 34 = .ok (.goto 4, 3) := by decide +kernel
theorem dX11_know_37 : decode cX11_know 37 = .ok (.iconst 4, 1) := by decide +kernel
theorem dX11_know_38 : decode cX11_know 38 = .ok (.invokevirtual 219, 3) := by decide +kernel
theorem dX11_know_41 : decode cX11_know 41 = .ok (.ireturn, 1) := by decide +kernel
theorem dX11_know_42 : decode cX11_know 42 = .ok (.lload_n 2, 1) := by decide +kernel
theorem dX11_know_43 : decode cX11_know 43 = .ok (.invokestatic 245, 3) := by decide +kernel
theorem dX11_know_46 : decode cX11_know 46 = .ok (.ifCond .ne 9, 3) := by decide +kernel
theorem dX11_know_49 : decode cX11_know 49 = .ok (.aload_n 0, 1) := by decide +kernel
theorem dX11_know_50 : decode cX11_know 50 = .ok (.iconst 2, 1) := by decide +kernel
theorem dX11_know_51 : decode cX11_know 51 = .ok (.invokevirtual 219, 3) := by decide +kernel
theorem dX11_know_54 : decode cX11_know 54 = .ok (.ireturn, 1) := by decide +kernel
theorem dX11_know_55 : decode cX11_know 55 = .ok (.aload_n 0, 1) := by decide +kernel
theorem dX11_know_56 : decode cX11_know 56 = .ok (.iload_n 1, 1) := by decide +kernel
theorem dX11_know_57 : decode cX11_know 57 = .ok (.lload_n 2, 1) := by decide +kernel
theorem dX11_know_58 : decode cX11_know 58 = .ok (.invokevirtual 408, 3) := by decide +kernel
theorem dX11_know_61 : decode cX11_know 61 = .ok (.istore 4, 2) := by decide +kernel
theorem dX11_know_63 : decode cX11_know 63 = .ok (.iload 4, 2) := by decide +kernel
theorem dX11_know_65 : decode cX11_know 65 = .ok (.bipush 7, 2) := by decide +kernel
theorem dX11_know_67 : decode cX11_know 67 = .ok (.if_icmp .le 9, 3) := by decide +kernel
theorem dX11_know_70 : decode cX11_know 70 = .ok (.aload_n 0, 1) := by decide +kernel
theorem dX11_know_71 : decode cX11_know 71 = .ok (.iconst 1, 1) := by decide +kernel
theorem dX11_know_72 : decode cX11_know 72 = .ok (.invokevirtual 219, 3) := by decide +kernel
theorem dX11_know_75 : decode cX11_know 75 = .ok (.ireturn, 1) := by decide +kernel
theorem dX11_know_76 : decode cX11_know 76 = .ok (.aload_n 0, 1) := by decide +kernel
theorem dX11_know_77 : decode cX11_know 77 = .ok (.lload_n 2, 1) := by decide +kernel
theorem dX11_know_78 : decode cX11_know 78 = .ok (.invokevirtual 411, 3) := by decide +kernel
theorem dX11_know_81 : decode cX11_know 81 = .ok (.ifCond .eq 10, 3) := by decide +kernel
theorem dX11_know_84 : decode cX11_know 84 = .ok (.aload_n 0, 1) := by decide +kernel
theorem dX11_know_85 : decode cX11_know 85 = .ok (.bipush 6, 2) := by decide +kernel
theorem dX11_know_87 : decode cX11_know 87 = .ok (.invokevirtual 219, 3) := by decide +kernel
theorem dX11_know_90 : decode cX11_know 90 = .ok (.ireturn, 1) := by decide +kernel
theorem dX11_know_91 : decode cX11_know 91 = .ok (.aload_n 0, 1) := by decide +kernel
theorem dX11_know_92 : decode cX11_know 92 = .ok (.getfield 405, 3) := by decide +kernel
theorem dX11_know_95 : decode cX11_know 95 = .ok (.bipush 12, 2) := by decide +kernel
theorem dX11_know_97 : decode cX11_know 97 = .ok (.if_icmp .ne 9, 3) := by decide +kernel
theorem dX11_know_100 : decode cX11_know 100 = .ok (.aload_n 0, 1) := by decide +kernel
theorem dX11_know_101 : decode cX11_know 101 = .ok (.iconst 5, 1) := by decide +kernel
theorem dX11_know_102 : decode cX11_know 102 = .ok (.invokevirtual 219, 3) := by decide +kernel
theorem dX11_know_105 : decode cX11_know 105 = .ok (.ireturn, 1) := by decide +kernel
theorem dX11_know_106 : decode cX11_know 106 = .ok (.aload_n 0, 1) := by decide +kernel
theorem dX11_know_107 : decode cX11_know 107 = .ok (.getfield 129, 3) := by decide +kernel
theorem dX11_know_110 : decode cX11_know 110 = .ok (.aload_n 0, 1) := by decide +kernel
theorem dX11_know_111 : decode cX11_know 111 = .ok (.getfield 405, 3) := by decide +kernel
theorem dX11_know_114 : decode cX11_know 114 = .ok (.lload_n 2, 1) := by decide +kernel
theorem dX11_know_115 : decode cX11_know 115 = .ok (.lastore, 1) := by decide +kernel
theorem dX11_know_116 : decode cX11_know 116 = .ok (.aload_n 0, 1) := by decide +kernel
theorem dX11_know_117 : decode cX11_know 117 = .ok (.getfield 132, 3) := by decide +kernel
theorem dX11_know_120 : decode cX11_know 120 = .ok (.aload_n 0, 1) := by decide +kernel
theorem dX11_know_121 : decode cX11_know 121 = .ok (.getfield 405, 3) := by decide +kernel
theorem dX11_know_124 : decode cX11_know 124 = .ok (.iload 4, 2) := by decide +kernel
theorem dX11_know_126 : decode cX11_know 126 = .ok (.iastore, 1) := by decide +kernel
theorem dX11_know_127 : decode cX11_know 127 = .ok (.aload_n 0, 1) := by decide +kernel
theorem dX11_know_128 : decode cX11_know 128 = .ok (.dup, 1) := by decide +kernel
theorem dX11_know_129 : decode cX11_know 129 = .ok (.getfield 405, 3) := by decide +kernel
theorem dX11_know_132 : decode cX11_know 132 = .ok (.iconst 1, 1) := by decide +kernel
theorem dX11_know_133 : decode cX11_know 133 = .ok (.iadd, 1) := by decide +kernel
theorem dX11_know_134 : decode cX11_know 134 = .ok (.putfield 405, 3) := by decide +kernel
theorem dX11_know_137 : decode cX11_know 137 = .ok (.aload_n 0, 1) := by decide +kernel
theorem dX11_know_138 : decode cX11_know 138 = .ok (.iload 4, 2) := by decide +kernel
theorem dX11_know_140 : decode cX11_know 140 = .ok (.invokevirtual 157, 3) := by decide +kernel
theorem dX11_know_143 : decode cX11_know 143 = .ok (.ireturn, 1) := by decide +kernel
def f_Model_know_b38 (s1 : Int32) (Q : Int32 → MI → MJ → Prop) (I : MI) (J : MJ) : Prop :=
  f_Model_refuse s1 I J (fun r38 I38 J38 => Q r38 I38 J38)
def f_Model_know (x1 : Int32) (x2 : Int64) (I : MI) (J : MJ) (Q : Int32 → MI → MJ → Prop) : Prop :=
  f_Model_isPlace x1 I J (fun r1 I1 J1 => (if r1 = 0 then f_Model_refuse (2 : Int32) I1 J1 (fun r9 I9 J9 => Q r9 I9 J9) else vp_in x1 16 ∧ (if 4 ≤ (I1 178 x1.toNatClampNeg) then f_Model_isWord x2 I1 J1 (fun r43 I43 J43 => (if r43 = 0 then f_Model_refuse (2 : Int32) I43 J43 (fun r51 I51 J51 => Q r51 I51 J51) else f_Model_answer x1 x2 I43 J43 (fun r58 I58 J58 => (if r58 ≤ 7 then f_Model_isKnown x2 I58 J58 (fun r78 I78 J78 => (if r78 = 0 then (if (I78 177 59) = 12 then f_Model_refuse (5 : Int32) I78 J78 (fun r102 I102 J102 => Q r102 I102 J102) else vp_in (I78 177 59) 12 ∧ ∀ J115 : MJ, J115 = sJ J78 217 (vp_updL (J78 217) (I78 177 59).toNatClampNeg x2) → vp_in (I78 177 59) 12 ∧ ∀ I126 : MI, I126 = sI I78 218 (upd (I78 218) (I78 177 59).toNatClampNeg r58) → ∀ I134 : MI, I134 = sI I126 177 (upd (I126 177) 59 ((I126 177 59) + 1)) → f_Model_done r58 I134 J115 (fun r140 I140 J140 => Q r140 I140 J140)) else f_Model_refuse (6 : Int32) I78 J78 (fun r87 I87 J87 => Q r87 I87 J87))) else f_Model_refuse (1 : Int32) I58 J58 (fun r72 I72 J72 => Q r72 I72 J72))))) else vp_in x1 16 ∧ (if 0 ≤ (I1 178 x1.toNatClampNeg) then f_Model_know_b38 4 Q I1 J1 else f_Model_know_b38 1 Q I1 J1))))
set_option maxRecDepth 100000 in
set_option maxHeartbeats 4000000 in
theorem w_Model_know_b38 {Γ : Ctx} {Q : Int32 → MI → MJ → Prop} {s1 : Int32}  (X : Cx Γ cX11_know 5 RX11 5) (Y : Rt Γ (Pi Q) (Option.some Jvm.ClassFile.FieldType.int))   {I : MI} {J : MJ} (h : f_Model_know_b38 s1 Q I J) : Wp Γ 5 38 [] [.int s1, .ref (ad Γ 177)] I J := by
  unfold f_Model_know_b38 at h
  refine cv_Model_refuse X dX11_know_38 ml_X11_219  h (Nat.le_of_ble_eq_true rfl) (by decide) (fun r38 I38 J38 h => ?_)
  exact wp_iret X Y dX11_know_41 ⟨_, rfl, h⟩

set_option maxRecDepth 100000 in
set_option maxHeartbeats 4000000 in
theorem w_Model_know_b0 {Γ : Ctx} {Q : Int32 → MI → MJ → Prop} {x1 : Int32} {x2 : Int64}  (X : Cx Γ cX11_know 5 RX11 5) (Y : Rt Γ (Pi Q) (Option.some Jvm.ClassFile.FieldType.int))   {I : MI} {J : MJ} (h : f_Model_know x1 x2 I J Q) : Wp Γ 5 0 [(0, .ref (ad Γ 177)), (1, .int x1), (2, .long x2)] [] I J := by
  unfold f_Model_know at h
  refine wp_iload_n X dX11_know_0 1 rfl ?_
  refine cs_Model_isPlace X dX11_know_1 ml_X11_145  h (Nat.le_of_ble_eq_true rfl) (by decide) (fun r1 I1 J1 h => ?_)
  refine wp_if_ne (tgt := 13) X dX11_know_4 (by decide) (fun hc => ?_) (fun hc => ?_)
  · have h := ite_f h hc
    refine wp_aload_n X dX11_know_13 0 rfl ?_
    refine gf_X11_7 (o' := 178) X sh_177 rfl dX11_know_14 ?_
    refine wp_iload_n X dX11_know_17 1 rfl ?_
    obtain ⟨hb18, h⟩ := h
    refine wp_iald X sh_178 hb18 dX11_know_18 ?_
    refine wp_iconst X dX11_know_19 ic_4 ?_
    refine wp_icmp_ge (tgt := 42) X dX11_know_20 (by decide) (fun hc => ?_) (fun hc => ?_)
    · have h := ite_t h hc
      refine wp_lload_n X dX11_know_42 2 rfl ?_
      refine cs_Model_isWord X dX11_know_43 ml_X11_245  h (Nat.le_of_ble_eq_true rfl) (by decide) (fun r43 I43 J43 h => ?_)
      refine wp_if_ne (tgt := 55) X dX11_know_46 (by decide) (fun hc => ?_) (fun hc => ?_)
      · have h := ite_f h hc
        refine wp_aload_n X dX11_know_55 0 rfl ?_
        refine wp_iload_n X dX11_know_56 1 rfl ?_
        refine wp_lload_n X dX11_know_57 2 rfl ?_
        refine cv_Model_answer X dX11_know_58 ml_X11_408  h (Nat.le_of_ble_eq_true rfl) (by decide) (fun r58 I58 J58 h => ?_)
        refine wp_istore (L' := [(4, .int r58), (0, .ref (ad Γ 177)), (1, .int x1), (2, .long x2)]) X dX11_know_61 (by decide) rfl ?_
        refine wp_iload X dX11_know_63 0 rfl ?_
        refine wp_bipush X dX11_know_65 bi_7 ?_
        refine wp_icmp_le (tgt := 76) X dX11_know_67 (by decide) (fun hc => ?_) (fun hc => ?_)
        · have h := ite_t h hc
          refine wp_aload_n X dX11_know_76 1 rfl ?_
          refine wp_lload_n X dX11_know_77 3 rfl ?_
          refine cv_Model_isKnown X dX11_know_78 ml_X11_411  h (Nat.le_of_ble_eq_true rfl) (by decide) (fun r78 I78 J78 h => ?_)
          refine wp_if_eq (tgt := 91) X dX11_know_81 (by decide) (fun hc => ?_) (fun hc => ?_)
          · have h := ite_t h hc
            refine wp_aload_n X dX11_know_91 1 rfl ?_
            refine gf_X11_405 X sh_177 dX11_know_92 ?_
            refine wp_bipush X dX11_know_95 bi_12 ?_
            refine wp_icmp_ne (tgt := 106) X dX11_know_97 (by decide) (fun hc => ?_) (fun hc => ?_)
            · have h := ite_f h hc
              refine wp_aload_n X dX11_know_106 1 rfl ?_
              refine gf_X11_129 (o' := 217) X sh_177 rfl dX11_know_107 ?_
              refine wp_aload_n X dX11_know_110 1 rfl ?_
              refine gf_X11_405 X sh_177 dX11_know_111 ?_
              refine wp_lload_n X dX11_know_114 3 rfl ?_
              obtain ⟨hb115, h⟩ := h
              refine wp_last X sh_217 hb115 dX11_know_115 ?_
              refine wp_memJ (fun J115 eJ115 => ?_)
              have h := h J115 eJ115
              refine wp_aload_n X dX11_know_116 1 rfl ?_
              refine gf_X11_132 (o' := 218) X sh_177 rfl dX11_know_117 ?_
              refine wp_aload_n X dX11_know_120 1 rfl ?_
              refine gf_X11_405 X sh_177 dX11_know_121 ?_
              refine wp_iload X dX11_know_124 0 rfl ?_
              obtain ⟨hb126, h⟩ := h
              refine wp_iast X sh_218 hb126 dX11_know_126 ?_
              refine wp_memI (fun I126 eI126 => ?_)
              have h := h I126 eI126
              refine wp_aload_n X dX11_know_127 1 rfl ?_
              refine wp_dup X dX11_know_128 rfl ?_
              refine gf_X11_405 X sh_177 dX11_know_129 ?_
              refine wp_iconst X dX11_know_132 ic_1 ?_
              refine wp_iadd X dX11_know_133 ?_
              refine pf_X11_405 X sh_177 dX11_know_134 (fun I134 eI134 => ?_)
              have h := h I134 eI134
              refine wp_aload_n X dX11_know_137 1 rfl ?_
              refine wp_iload X dX11_know_138 0 rfl ?_
              refine cv_Model_done X dX11_know_140 ml_X11_157  h (Nat.le_of_ble_eq_true rfl) (by decide) (fun r140 I140 J140 h => ?_)
              exact wp_iret X Y dX11_know_143 ⟨_, rfl, h⟩
            · have h := ite_t h hc
              refine wp_aload_n X dX11_know_100 1 rfl ?_
              refine wp_iconst X dX11_know_101 ic_5 ?_
              refine cv_Model_refuse X dX11_know_102 ml_X11_219  h (Nat.le_of_ble_eq_true rfl) (by decide) (fun r102 I102 J102 h => ?_)
              exact wp_iret X Y dX11_know_105 ⟨_, rfl, h⟩
          · have h := ite_f h hc
            refine wp_aload_n X dX11_know_84 1 rfl ?_
            refine wp_bipush X dX11_know_85 bi_6 ?_
            refine cv_Model_refuse X dX11_know_87 ml_X11_219  h (Nat.le_of_ble_eq_true rfl) (by decide) (fun r87 I87 J87 h => ?_)
            exact wp_iret X Y dX11_know_90 ⟨_, rfl, h⟩
        · have h := ite_f h hc
          refine wp_aload_n X dX11_know_70 1 rfl ?_
          refine wp_iconst X dX11_know_71 ic_1 ?_
          refine cv_Model_refuse X dX11_know_72 ml_X11_219  h (Nat.le_of_ble_eq_true rfl) (by decide) (fun r72 I72 J72 h => ?_)
          exact wp_iret X Y dX11_know_75 ⟨_, rfl, h⟩
      · have h := ite_t h hc
        refine wp_aload_n X dX11_know_49 0 rfl ?_
        refine wp_iconst X dX11_know_50 ic_2 ?_
        refine cv_Model_refuse X dX11_know_51 ml_X11_219  h (Nat.le_of_ble_eq_true rfl) (by decide) (fun r51 I51 J51 h => ?_)
        exact wp_iret X Y dX11_know_54 ⟨_, rfl, h⟩
    · have h := ite_f h hc
      refine wp_aload_n X dX11_know_23 0 rfl ?_
      refine wp_aload_n X dX11_know_24 0 rfl ?_
      refine gf_X11_7 (o' := 178) X sh_177 rfl dX11_know_25 ?_
      refine wp_iload_n X dX11_know_28 1 rfl ?_
      obtain ⟨hb29, h⟩ := h
      refine wp_iald X sh_178 hb29 dX11_know_29 ?_
      refine wp_if_ge (tgt := 37) X dX11_know_30 (by decide) (fun hc => ?_) (fun hc => ?_)
      · have h := ite_t h hc
        refine wp_iconst X dX11_know_37 ic_4 ?_
        refine wp_sub X [] rfl ?_
        exact w_Model_know_b38 X Y  h
      · have h := ite_f h hc
        refine wp_iconst X dX11_know_33 ic_1 ?_
        refine wp_goto (tgt := 38) X dX11_know_34 (by decide) ?_
        refine wp_sub X [] rfl ?_
        exact w_Model_know_b38 X Y  h
  · have h := ite_t h hc
    refine wp_aload_n X dX11_know_7 0 rfl ?_
    refine wp_iconst X dX11_know_8 ic_2 ?_
    refine cv_Model_refuse X dX11_know_9 ml_X11_219  h (Nat.le_of_ble_eq_true rfl) (by decide) (fun r9 I9 J9 h => ?_)
    exact wp_iret X Y dX11_know_12 ⟨_, rfl, h⟩

theorem c_Model_know {l : Launch} {g : GE} (hg : Inj g) {I : MI} {J : MJ} {Q : Int32 → MI → MJ → Prop} {x1 : Int32} {x2 : Int64}  (h : f_Model_know x1 x2 I J Q) : Cm l g yX11_know cX11_know 5 (Option.some Jvm.ClassFile.FieldType.int) 5 [.ref (g.1 177), .int x1, .long x2] I J (Pi Q) := by
  refine Cm.of (As := fun ad => [.ref (ad 177), .int x1, .long x2]) hg pn_X11 (Nat.le_of_ble_eq_true rfl) ?_
  exact (fun Γ _ _ X Y => w_Model_know_b0 X Y  h)
theorem cv_Model_know {Γ : Ctx} {cc : ByteArray} {nL d pc index : Nat} {own : String} {L : List (Nat × Value)} {rest : List Value} {I : MI} {J : MJ} {Q : Int32 → MI → MJ → Prop} {x1 : Int32} {x2 : Int64} (X : Cx Γ cc nL own d) (hd : decode cc pc = .ok (.invokevirtual index, 3)) (hlink : Cond.methodLink own index yX11_know ∈ TT)  (h : f_Model_know x1 x2 I J Q) (hrest : (rest.map fun v => v.category).sum ≤ 8) (hdd : 5 + 1 ≤ d) (kk : ∀ (r : Int32) (I' : MI) (J' : MJ), Q r I' J' → Wp Γ nL (pc + 3) L (.int r :: rest) I' J') : Wp Γ nL pc L (.long x2 :: .int x1 :: .ref (ad Γ 177) :: rest) I J :=
  wp_callV (As := [.int x1, .long x2]) (rest := rest) (T := TX11) (N := 62) X hd hlink mv_X11_know sh_177 (by decide) rfl (c_Model_know X.inj  h) rfl rfl hrest hdd (fun v I' J' hv => by obtain ⟨r, rfl, hq⟩ := hv; exact kk r I' J' hq)
