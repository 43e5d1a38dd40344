theorem dX11_refuse_0 : decode cX11_refuse 0 = .ok (.aload_n 0, 1) := by decide +kernel
theorem dX11_refuse_1 : decode cX11_refuse 1 = .ok (.iload_n 1, 1) := by decide +kernel
theorem dX11_refuse_2 : decode cX11_refuse 2 = .ok (.putfield 141, 3) := by decide +kernel
theorem dX11_refuse_5 : decode cX11_refuse 5 = .ok (.iconst (-1), 1) := by decide +kernel
theorem dX11_refuse_6 : decode cX11_refuse 6 = .ok (.ireturn, 1) := by decide +kernel
def f_Model_refuse (x1 : Int32) (I : MI) (J : MJ) (Q : Int32 → MI → MJ → Prop) : Prop :=
  ∀ I2 : MI, I2 = sI I 177 (upd (I 177) 13 x1) → Q (-1) I2 J
set_option maxRecDepth 100000 in
set_option maxHeartbeats 4000000 in
theorem w_Model_refuse_b0 {Γ : Ctx} {Q : Int32 → MI → MJ → Prop} {x1 : Int32}  (X : Cx Γ cX11_refuse 2 RX11 0) (Y : Rt Γ (Pi Q) (Option.some Jvm.ClassFile.FieldType.int))   {I : MI} {J : MJ} (h : f_Model_refuse x1 I J Q) : Wp Γ 2 0 [(0, .ref (ad Γ 177)), (1, .int x1)] [] I J := by
  unfold f_Model_refuse at h
  refine wp_aload_n X dX11_refuse_0 0 rfl ?_
  refine wp_iload_n X dX11_refuse_1 1 rfl ?_
  refine pf_X11_141 X sh_177 dX11_refuse_2 (fun I2 eI2 => ?_)
  have h := h I2 eI2
  refine wp_iconst X dX11_refuse_5 ic_m1 ?_
  exact wp_iret X Y dX11_refuse_6 ⟨_, rfl, h⟩

theorem c_Model_refuse {l : Launch} {g : GE} (hg : Inj g) {I : MI} {J : MJ} {Q : Int32 → MI → MJ → Prop} {x1 : Int32}  (h : f_Model_refuse x1 I J Q) : Cm l g yX11_refuse cX11_refuse 2 (Option.some Jvm.ClassFile.FieldType.int) 0 [.ref (g.1 177), .int x1] I J (Pi Q) := by
  refine Cm.of (As := fun ad => [.ref (ad 177), .int x1]) hg pn_X11 (Nat.le_of_ble_eq_true rfl) ?_
  exact (fun Γ _ _ X Y => w_Model_refuse_b0 X Y  h)
theorem cv_Model_refuse {Γ : Ctx} {cc : ByteArray} {nL d pc index : Nat} {own : String} {L : List (Nat × Value)} {rest : List Value} {I : MI} {J : MJ} {Q : Int32 → MI → MJ → Prop} {x1 : Int32} (X : Cx Γ cc nL own d) (hd : decode cc pc = .ok (.invokevirtual index, 3)) (hlink : Cond.methodLink own index yX11_refuse ∈ TT)  (h : f_Model_refuse x1 I J Q) (hrest : (rest.map fun v => v.category).sum ≤ 8) (hdd : 0 + 1 ≤ d) (kk : ∀ (r : Int32) (I' : MI) (J' : MJ), Q r I' J' → Wp Γ nL (pc + 3) L (.int r :: rest) I' J') : Wp Γ nL pc L (.int x1 :: .ref (ad Γ 177) :: rest) I J :=
  wp_callV (As := [.int x1]) (rest := rest) (T := TX11) (N := 62) X hd hlink mv_X11_refuse sh_177 (by decide) rfl (c_Model_refuse X.inj  h) rfl rfl hrest hdd (fun v I' J' hv => by obtain ⟨r, rfl, hq⟩ := hv; exact kk r I' J' hq)
theorem dX11_done_0 : decode cX11_done 0 = .ok (.aload_n 0, 1) := by decide +kernel
theorem dX11_done_1 : decode cX11_done 1 = .ok (.iconst 0, 1) := by decide +kernel
theorem dX11_done_2 : decode cX11_done 2 = .ok (.putfield 141, 3) := by decide +kernel
theorem dX11_done_5 : decode cX11_done 5 = .ok (.iload_n 1, 1) := by decide +kernel
theorem dX11_done_6 : decode cX11_done 6 = .ok (.ireturn, 1) := by decide +kernel
def f_Model_done (x1 : Int32) (I : MI) (J : MJ) (Q : Int32 → MI → MJ → Prop) : Prop :=
  ∀ I2 : MI, I2 = sI I 177 (upd (I 177) 13 0) → Q x1 I2 J
set_option maxRecDepth 100000 in
set_option maxHeartbeats 4000000 in
theorem w_Model_done_b0 {Γ : Ctx} {Q : Int32 → MI → MJ → Prop} {x1 : Int32}  (X : Cx Γ cX11_done 2 RX11 0) (Y : Rt Γ (Pi Q) (Option.some Jvm.ClassFile.FieldType.int))   {I : MI} {J : MJ} (h : f_Model_done x1 I J Q) : Wp Γ 2 0 [(0, .ref (ad Γ 177)), (1, .int x1)] [] I J := by
  unfold f_Model_done at h
  refine wp_aload_n X dX11_done_0 0 rfl ?_
  refine wp_iconst X dX11_done_1 ic_0 ?_
  refine pf_X11_141 X sh_177 dX11_done_2 (fun I2 eI2 => ?_)
  have h := h I2 eI2
  refine wp_iload_n X dX11_done_5 1 rfl ?_
  exact wp_iret X Y dX11_done_6 ⟨_, rfl, h⟩

theorem c_Model_done {l : Launch} {g : GE} (hg : Inj g) {I : MI} {J : MJ} {Q : Int32 → MI → MJ → Prop} {x1 : Int32}  (h : f_Model_done x1 I J Q) : Cm l g yX11_done cX11_done 2 (Option.some Jvm.ClassFile.FieldType.int) 0 [.ref (g.1 177), .int x1] I J (Pi Q) := by
  refine Cm.of (As := fun ad => [.ref (ad 177), .int x1]) hg pn_X11 (Nat.le_of_ble_eq_true rfl) ?_
  exact (fun Γ _ _ X Y => w_Model_done_b0 X Y  h)
theorem cv_Model_done {Γ : Ctx} {cc : ByteArray} {nL d pc index : Nat} {own : String} {L : List (Nat × Value)} {rest : List Value} {I : MI} {J : MJ} {Q : Int32 → MI → MJ → Prop} {x1 : Int32} (X : Cx Γ cc nL own d) (hd : decode cc pc = .ok (.invokevirtual index, 3)) (hlink : Cond.methodLink own index yX11_done ∈ TT)  (h : f_Model_done x1 I J Q) (hrest : (rest.map fun v => v.category).sum ≤ 8) (hdd : 0 + 1 ≤ d) (kk : ∀ (r : Int32) (I' : MI) (J' : MJ), Q r I' J' → Wp Γ nL (pc + 3) L (.int r :: rest) I' J') : Wp Γ nL pc L (.int x1 :: .ref (ad Γ 177) :: rest) I J :=
  wp_callV (As := [.int x1]) (rest := rest) (T := TX11) (N := 62) X hd hlink mv_X11_done sh_177 (by decide) rfl (c_Model_done X.inj  h) rfl rfl hrest hdd (fun v I' J' hv => by obtain ⟨r, rfl, hq⟩ := hv; exact kk r I' J' hq)
theorem dX11_isPlace_0 : decode cX11_isPlace 0 = .ok (.iload_n 0, 1) := by decide +kernel
theorem dX11_isPlace_1 : decode cX11_isPlace 1 = .ok (.ifCond .lt 13, 3) := by decide +kernel
theorem dX11_isPlace_4 : decode cX11_isPlace 4 = .ok (.iload_n 0, 1) := by decide +kernel
theorem dX11_isPlace_5 : decode cX11_isPlace 5 = .ok (.bipush 16, 2) := by decide +kernel
theorem dX11_isPlace_7 : decode cX11_isPlace 7 = .ok (.if_icmp .ge 7, 3) := by decide +kernel
theorem dX11_isPlace_10 : decode cX11_isPlace 10 = .ok (.iconst 1, 1) := by decide +kernel
theorem dX11_isPlace_11 : decode cX11_isPlace 11 = .ok (.goto 4, 3) := by decide +kernel
theorem dX11_isPlace_14 : decode cX11_isPlace 14 = .ok (.iconst 0, 1) := by decide +kernel
theorem dX11_isPlace_15 : decode cX11_isPlace 15 = .ok (.ireturn, 1) := by decide +kernel
def f_Model_isPlace (x0 : Int32) (I : MI) (J : MJ) (Q : Int32 → MI → MJ → Prop) : Prop :=
  (if x0 < 0 then Q 0 I J else (if 16 ≤ x0 then Q 0 I J else Q 1 I J))
set_option maxRecDepth 100000 in
set_option maxHeartbeats 4000000 in
theorem w_Model_isPlace_b0 {Γ : Ctx} {Q : Int32 → MI → MJ → Prop} {x0 : Int32}  (X : Cx Γ cX11_isPlace 1 RX11 0) (Y : Rt Γ (Pi Q) (Option.some Jvm.ClassFile.FieldType.boolean))   {I : MI} {J : MJ} (h : f_Model_isPlace x0 I J Q) : Wp Γ 1 0 [(0, .int x0)] [] I J := by
  unfold f_Model_isPlace at h
  refine wp_iload_n X dX11_isPlace_0 0 rfl ?_
  refine wp_if_lt (tgt := 14) X dX11_isPlace_1 (by decide) (fun hc => ?_) (fun hc => ?_)
  · have h := ite_t h hc
    refine wp_iconst X dX11_isPlace_14 ic_0 ?_
    exact wp_zret X Y dX11_isPlace_15 (by decide) ⟨_, rfl, h⟩
  · have h := ite_f h hc
    refine wp_iload_n X dX11_isPlace_4 0 rfl ?_
    refine wp_bipush X dX11_isPlace_5 bi_16 ?_
    refine wp_icmp_ge (tgt := 14) X dX11_isPlace_7 (by decide) (fun hc => ?_) (fun hc => ?_)
    · have h := ite_t h hc
      refine wp_iconst X dX11_isPlace_14 ic_0 ?_
      exact wp_zret X Y dX11_isPlace_15 (by decide) ⟨_, rfl, h⟩
    · have h := ite_f h hc
      refine wp_iconst X dX11_isPlace_10 ic_1 ?_
      refine wp_goto (tgt := 15) X dX11_isPlace_11 (by decide) ?_
      exact wp_zret X Y dX11_isPlace_15 (by decide) ⟨_, rfl, h⟩

theorem c_Model_isPlace {l : Launch} {g : GE} (hg : Inj g) {I : MI} {J : MJ} {Q : Int32 → MI → MJ → Prop} {x0 : Int32}  (h : f_Model_isPlace x0 I J Q) : Cm l g yX11_isPlace cX11_isPlace 1 (Option.some Jvm.ClassFile.FieldType.boolean) 0 [.int x0] I J (Pi Q) := by
  refine Cm.of (As := fun ad => [.int x0]) hg pn_X11 (Nat.le_of_ble_eq_true rfl) ?_
  exact (fun Γ _ _ X Y => w_Model_isPlace_b0 X Y  h)
theorem cs_Model_isPlace {Γ : Ctx} {cc : ByteArray} {nL d pc index : Nat} {own : String} {L : List (Nat × Value)} {rest : List Value} {I : MI} {J : MJ} {Q : Int32 → MI → MJ → Prop} {x0 : Int32} (X : Cx Γ cc nL own d) (hd : decode cc pc = .ok (.invokestatic index, 3)) (hlink : Cond.methodLink own index yX11_isPlace ∈ TT)  (h : f_Model_isPlace x0 I J Q) (hrest : (rest.map fun v => v.category).sum ≤ 8) (hdd : 0 + 1 ≤ d) (kk : ∀ (r : Int32) (I' : MI) (J' : MJ), Q r I' J' → Wp Γ nL (pc + 3) L (.int r :: rest) I' J') : Wp Γ nL pc L (.int x0 :: rest) I J :=
  wp_callS (As := [.int x0]) (rest := rest) X hd hlink mv_X11_isPlace (c_Model_isPlace X.inj  h) rfl rfl hrest hdd (fun v I' J' hv => by obtain ⟨r, rfl, hq⟩ := hv; exact kk r I' J' hq)
theorem dX11_isMachine_0 : decode cX11_isMachine 0 = .ok (.iload_n 1, 1) := by decide +kernel
theorem dX11_isMachine_1 : decode cX11_isMachine 1 = .ok (.invokestatic 145, 3) := by decide +kernel
theorem dX11_isMachine_4 : decode cX11_isMachine 4 = .ok (.ifCond .eq 26, 3) := by decide +kernel
theorem dX11_isMachine_7 : decode cX11_isMachine 7 = .ok (.aload_n 0, 1) := by decide +kernel
theorem dX11_isMachine_8 : decode cX11_isMachine 8 = .ok (.getfield 7, 3) := by decide +kernel
theorem dX11_isMachine_11 : decode cX11_isMachine 11 = .ok (.iload_n 1, 1) := by decide +kernel
theorem dX11_isMachine_12 : decode cX11_isMachine 12 = .ok (.iaload, 1) := by decide +kernel
theorem dX11_isMachine_13 : decode cX11_isMachine 13 = .ok (.ifCond .lt 17, 3) := by decide +kernel
theorem dX11_isMachine_16 : decode cX11_isMachine 16 = .ok (.aload_n 0, 1) := by decide +kernel
theorem dX11_isMachine_17 : decode cX11_isMachine 17 = .ok (.getfield 7, 3) := by decide +kernel
theorem dX11_isMachine_20 : decode cX11_isMachine 20 = .ok (.iload_n 1, 1) := by decide +kernel
theorem dX11_isMachine_21 : decode cX11_isMachine 21 = .ok (.iaload, 1) := by decide +kernel
theorem dX11_isMachine_22 : decode cX11_isMachine 22 = .ok (.iconst 4, 1) := by decide +kernel
theorem dX11_isMachine_23 : decode cX11_isMachine 23 = .ok (.if_icmp .ge 7, 3) := by decide +kernel
theorem dX11_isMachine_26 : decode cX11_isMachine 26 = .ok (.iconst 1, 1) := by decide +kernel
theorem dX11_isMachine_27 : decode cX11_isMachine 27 = .ok (.goto 4, 3) := by decide +kernel
theorem dX11_isMachine_30 : decode cX11_isMachine 30 = .ok (.iconst 0, 1) := by decide +kernel
theorem dX11_isMachine_31 : decode cX11_isMachine 31 = .ok (.ireturn, 1) := by decide +kernel
def f_Model_isMachine (x1 : Int32) (I : MI) (J : MJ) (Q : Int32 → MI → MJ → Prop) : Prop :=
  f_Model_isPlace x1 I J (fun r1 I1 J1 => (if r1 = 0 then Q 0 I1 J1 else vp_in x1 16 ∧ (if (I1 178 x1.toNatClampNeg) < 0 then Q 0 I1 J1 else vp_in x1 16 ∧ (if 4 ≤ (I1 178 x1.toNatClampNeg) then Q 0 I1 J1 else Q 1 I1 J1))))
set_option maxRecDepth 100000 in
set_option maxHeartbeats 4000000 in
theorem w_Model_isMachine_b0 {Γ : Ctx} {Q : Int32 → MI → MJ → Prop} {x1 : Int32}  (X : Cx Γ cX11_isMachine 2 RX11 1) (Y : Rt Γ (Pi Q) (Option.some Jvm.ClassFile.FieldType.boolean))   {I : MI} {J : MJ} (h : f_Model_isMachine x1 I J Q) : Wp Γ 2 0 [(0, .ref (ad Γ 177)), (1, .int x1)] [] I J := by
  unfold f_Model_isMachine at h
  refine wp_iload_n X dX11_isMachine_0 1 rfl ?_
  refine cs_Model_isPlace X dX11_isMachine_1 ml_X11_145  h (Nat.le_of_ble_eq_true rfl) (by decide) (fun r1 I1 J1 h => ?_)
  refine wp_if_eq (tgt := 30) X dX11_isMachine_4 (by decide) (fun hc => ?_) (fun hc => ?_)
  · have h := ite_t h hc
    refine wp_iconst X dX11_isMachine_30 ic_0 ?_
    exact wp_zret X Y dX11_isMachine_31 (by decide) ⟨_, rfl, h⟩
  · have h := ite_f h hc
    refine wp_aload_n X dX11_isMachine_7 0 rfl ?_
    refine gf_X11_7 (o' := 178) X sh_177 rfl dX11_isMachine_8 ?_
    refine wp_iload_n X dX11_isMachine_11 1 rfl ?_
    obtain ⟨hb12, h⟩ := h
    refine wp_iald X sh_178 hb12 dX11_isMachine_12 ?_
    refine wp_if_lt (tgt := 30) X dX11_isMachine_13 (by decide) (fun hc => ?_) (fun hc => ?_)
    · have h := ite_t h hc
      refine wp_iconst X dX11_isMachine_30 ic_0 ?_
      exact wp_zret X Y dX11_isMachine_31 (by decide) ⟨_, rfl, h⟩
    · have h := ite_f h hc
      refine wp_aload_n X dX11_isMachine_16 0 rfl ?_
      refine gf_X11_7 (o' := 178) X sh_177 rfl dX11_isMachine_17 ?_
      refine wp_iload_n X dX11_isMachine_20 1 rfl ?_
      obtain ⟨hb21, h⟩ := h
      refine wp_iald X sh_178 hb21 dX11_isMachine_21 ?_
      refine wp_iconst X dX11_isMachine_22 ic_4 ?_
      refine wp_icmp_ge (tgt := 30) X dX11_isMachine_23 (by decide) (fun hc => ?_) (fun hc => ?_)
      · have h := ite_t h hc
        refine wp_iconst X dX11_isMachine_30 ic_0 ?_
        exact wp_zret X Y dX11_isMachine_31 (by decide) ⟨_, rfl, h⟩
      · have h := ite_f h hc
        refine wp_iconst X dX11_isMachine_26 ic_1 ?_
        refine wp_goto (tgt := 31) X dX11_isMachine_27 (by decide) ?_
        exact wp_zret X Y dX11_isMachine_31 (by decide) ⟨_, rfl, h⟩

theorem c_Model_isMachine {l : Launch} {g : GE} (hg : Inj g) {I : MI} {J : MJ} {Q : Int32 → MI → MJ → Prop} {x1 : Int32}  (h : f_Model_isMachine x1 I J Q) : Cm l g yX11_isMachine cX11_isMachine 2 (Option.some Jvm.ClassFile.FieldType.boolean) 1 [.ref (g.1 177), .int x1] I J (Pi Q) := by
  refine Cm.of (As := fun ad => [.ref (ad 177), .int x1]) hg pn_X11 (Nat.le_of_ble_eq_true rfl) ?_
  exact (fun Γ _ _ X Y => w_Model_isMachine_b0 X Y  h)
theorem cv_Model_isMachine {Γ : Ctx} {cc : ByteArray} {nL d pc index : Nat} {own : String} {L : List (Nat × Value)} {rest : List Value} {I : MI} {J : MJ} {Q : Int32 → MI → MJ → Prop} {x1 : Int32} (X : Cx Γ cc nL own d) (hd : decode cc pc = .ok (.invokevirtual index, 3)) (hlink : Cond.methodLink own index yX11_isMachine ∈ TT)  (h : f_Model_isMachine x1 I J Q) (hrest : (rest.map fun v => v.category).sum ≤ 8) (hdd : 1 + 1 ≤ d) (kk : ∀ (r : Int32) (I' : MI) (J' : MJ), Q r I' J' → Wp Γ nL (pc + 3) L (.int r :: rest) I' J') : Wp Γ nL pc L (.int x1 :: .ref (ad Γ 177) :: rest) I J :=
  wp_callV (As := [.int x1]) (rest := rest) (T := TX11) (N := 62) X hd hlink mv_X11_isMachine sh_177 (by decide) rfl (c_Model_isMachine X.inj  h) rfl rfl hrest hdd (fun v I' J' hv => by obtain ⟨r, rfl, hq⟩ := hv; exact kk r I' J' hq)
theorem dX11_noMachine_0 : decode cX11_noMachine 0 = .ok (.iload_n 1, 1) := by decide +kernel
theorem dX11_noMachine_1 : decode cX11_noMachine 1 = .ok (.invokestatic 145, 3) := by decide +kernel
theorem dX11_noMachine_4 : decode cX11_noMachine 4 = .ok (.ifCond .ne 7, 3) := by decide +kernel
theorem dX11_noMachine_7 : decode cX11_noMachine 7 = .ok (.iconst 2, 1) := by decide +kernel
theorem dX11_noMachine_8 : decode cX11_noMachine 8 = .ok (.goto 31, 3) := by decide +kernel
theorem dX11_noMachine_11 : decode cX11_noMachine 11 = .ok (.aload_n 0, 1) := by decide +kernel
theorem dX11_noMachine_12 : decode cX11_noMachine 12 = .ok (.getfield 7, 3) := by decide +kernel
theorem dX11_noMachine_15 : decode cX11_noMachine 15 = .ok (.iload_n 1, 1) := by decide +kernel
theorem dX11_noMachine_16 : decode cX11_noMachine 16 = .ok (.iaload, 1) := by decide +kernel
theorem dX11_noMachine_17 : decode cX11_noMachine 17 = .ok (.ifCond .ge 7, 3) := by decide +kernel
theorem dX11_noMachine_20 : decode cX11_noMachine 20 = .ok (.iconst 1, 1) := by decide +kernel
theorem dX11_noMachine_21 : decode cX11_noMachine 21 = .ok (.goto 18, 3) := by decide +kernel
theorem dX11_noMachine_24 : decode cX11_noMachine 24 = .ok (.aload_n 0, 1) := by decide +kernel
theorem dX11_noMachine_25 : decode cX11_noMachine 25 = .ok (.getfield 7, 3) := by decide +kernel
theorem dX11_noMachine_28 : decode cX11_noMachine 28 = .ok (.iload_n 1, 1) := by decide +kernel
theorem dX11_noMachine_29 : decode cX11_noMachine 29 = .ok (.iaload, 1) := by decide +kernel
theorem dX11_noMachine_30 : decode cX11_noMachine 30 = .ok (.iconst 3, 1) := by decide +kernel
theorem dX11_noMachine_31 : decode cX11_noMachine 31 = .ok (.if_icmp .le 7, 3) := by decide +kernel
theorem dX11_noMachine_34 : decode cX11_noMachine 34 = .ok (.iconst 4, 1) := by decide +kernel
theorem dX11_noMachine_35 : decode cX11_noMachine 35 = .ok (.goto 4, 3) := by decide +kernel
theorem dX11_noMachine_38 : decode cX11_noMachine 38 = .ok (.iconst 0, 1) := by decide +kernel
theorem dX11_noMachine_39 : decode cX11_noMachine 39 = .ok (.ireturn, 1) := by decide +kernel
def f_Model_noMachine (x1 : Int32) (I : MI) (J : MJ) (Q : Int32 → MI → MJ → Prop) : Prop :=
  f_Model_isPlace x1 I J (fun r1 I1 J1 => (if r1 = 0 then Q 2 I1 J1 else vp_in x1 16 ∧ (if 0 ≤ (I1 178 x1.toNatClampNeg) then vp_in x1 16 ∧ (if (I1 178 x1.toNatClampNeg) ≤ 3 then Q 0 I1 J1 else Q 4 I1 J1) else Q 1 I1 J1)))
set_option maxRecDepth 100000 in
set_option maxHeartbeats 4000000 in
theorem w_Model_noMachine_b0 {Γ : Ctx} {Q : Int32 → MI → MJ → Prop} {x1 : Int32}  (X : Cx Γ cX11_noMachine 2 RX11 1) (Y : Rt Γ (Pi Q) (Option.some Jvm.ClassFile.FieldType.int))   {I : MI} {J : MJ} (h : f_Model_noMachine x1 I J Q) : Wp Γ 2 0 [(0, .ref (ad Γ 177)), (1, .int x1)] [] I J := by
  unfold f_Model_noMachine at h
  refine wp_iload_n X dX11_noMachine_0 1 rfl ?_
  refine cs_Model_isPlace X dX11_noMachine_1 ml_X11_145  h (Nat.le_of_ble_eq_true rfl) (by decide) (fun r1 I1 J1 h => ?_)
  refine wp_if_ne (tgt := 11) X dX11_noMachine_4 (by decide) (fun hc => ?_) (fun hc => ?_)
  · have h := ite_f h hc
    refine wp_aload_n X dX11_noMachine_11 0 rfl ?_
    refine gf_X11_7 (o' := 178) X sh_177 rfl dX11_noMachine_12 ?_
    refine wp_iload_n X dX11_noMachine_15 1 rfl ?_
    obtain ⟨hb16, h⟩ := h
    refine wp_iald X sh_178 hb16 dX11_noMachine_16 ?_
    refine wp_if_ge (tgt := 24) X dX11_noMachine_17 (by decide) (fun hc => ?_) (fun hc => ?_)
    · have h := ite_t h hc
      refine wp_aload_n X dX11_noMachine_24 0 rfl ?_
      refine gf_X11_7 (o' := 178) X sh_177 rfl dX11_noMachine_25 ?_
      refine wp_iload_n X dX11_noMachine_28 1 rfl ?_
      obtain ⟨hb29, h⟩ := h
      refine wp_iald X sh_178 hb29 dX11_noMachine_29 ?_
      refine wp_iconst X dX11_noMachine_30 ic_3 ?_
      refine wp_icmp_le (tgt := 38) X dX11_noMachine_31 (by decide) (fun hc => ?_) (fun hc => ?_)
      · have h := ite_t h hc
        refine wp_iconst X dX11_noMachine_38 ic_0 ?_
        exact wp_iret X Y dX11_noMachine_39 ⟨_, rfl, h⟩
      · have h := ite_f h hc
        refine wp_iconst X dX11_noMachine_34 ic_4 ?_
        refine wp_goto (tgt := 39) X dX11_noMachine_35 (by decide) ?_
        exact wp_iret X Y dX11_noMachine_39 ⟨_, rfl, h⟩
    · have h := ite_f h hc
      refine wp_iconst X dX11_noMachine_20 ic_1 ?_
      refine wp_goto (tgt := 39) X dX11_noMachine_21 (by decide) ?_
      exact wp_iret X Y dX11_noMachine_39 ⟨_, rfl, h⟩
  · have h := ite_t h hc
    refine wp_iconst X dX11_noMachine_7 ic_2 ?_
    refine wp_goto (tgt := 39) X dX11_noMachine_8 (by decide) ?_
    exact wp_iret X Y dX11_noMachine_39 ⟨_, rfl, h⟩

theorem c_Model_noMachine {l : Launch} {g : GE} (hg : Inj g) {I : MI} {J : MJ} {Q : Int32 → MI → MJ → Prop} {x1 : Int32}  (h : f_Model_noMachine x1 I J Q) : Cm l g yX11_noMachine cX11_noMachine 2 (Option.some Jvm.ClassFile.FieldType.int) 1 [.ref (g.1 177), .int x1] I J (Pi Q) := by
  refine Cm.of (As := fun ad => [.ref (ad 177), .int x1]) hg pn_X11 (Nat.le_of_ble_eq_true rfl) ?_
  exact (fun Γ _ _ X Y => w_Model_noMachine_b0 X Y  h)
theorem cv_Model_noMachine {Γ : Ctx} {cc : ByteArray} {nL d pc index : Nat} {own : String} {L : List (Nat × Value)} {rest : List Value} {I : MI} {J : MJ} {Q : Int32 → MI → MJ → Prop} {x1 : Int32} (X : Cx Γ cc nL own d) (hd : decode cc pc = .ok (.invokevirtual index, 3)) (hlink : Cond.methodLink own index yX11_noMachine ∈ TT)  (h : f_Model_noMachine x1 I J Q) (hrest : (rest.map fun v => v.category).sum ≤ 8) (hdd : 1 + 1 ≤ d) (kk : ∀ (r : Int32) (I' : MI) (J' : MJ), Q r I' J' → Wp Γ nL (pc + 3) L (.int r :: rest) I' J') : Wp Γ nL pc L (.int x1 :: .ref (ad Γ 177) :: rest) I J :=
  wp_callV (As := [.int x1]) (rest := rest) (T := TX11) (N := 62) X hd hlink mv_X11_noMachine sh_177 (by decide) rfl (c_Model_noMachine X.inj  h) rfl rfl hrest hdd (fun v I' J' hv => by obtain ⟨r, rfl, hq⟩ := hv; exact kk r I' J' hq)
theorem dX11_isState_0 : decode cX11_isState 0 = .ok (.iload_n 2, 1) := by decide +kernel
theorem dX11_isState_1 : decode cX11_isState 1 = .ok (.ifCond .lt 17, 3) := by decide +kernel
theorem dX11_isState_4 : decode cX11_isState 4 = .ok (.iload_n 2, 1) := by decide +kernel
theorem dX11_isState_5 : decode cX11_isState 5 = .ok (.aload_n 0, 1) := by decide +kernel
theorem dX11_isState_6 : decode cX11_isState 6 = .ok (.getfield 33, 3) := by decide +kernel
theorem dX11_isState_9 : decode cX11_isState 9 = .ok (.iload_n 1, 1) := by decide +kernel
theorem dX11_isState_10 : decode cX11_isState 10 = .ok (.iaload, 1) := by decide +kernel
theorem dX11_isState_11 : decode cX11_isState 11 = .ok (.if_icmp .ge 7, 3) := by decide +kernel
theorem dX11_isState_14 : decode cX11_isState 14 = .ok (.iconst 1, 1) := by decide +kernel
theorem dX11_isState_15 : decode cX11_isState 15 = .ok (.goto 4, 3) := by decide +kernel
theorem dX11_isState_18 : decode cX11_isState 18 = .ok (.iconst 0, 1) := by decide +kernel
theorem dX11_isState_19 : decode cX11_isState 19 = .ok (.ireturn, 1) := by decide +kernel
def f_Model_isState (x1 : Int32) (x2 : Int32) (I : MI) (J : MJ) (Q : Int32 → MI → MJ → Prop) : Prop :=
  (if x2 < 0 then Q 0 I J else vp_in x1 20 ∧ (if (I 185 x1.toNatClampNeg) ≤ x2 then Q 0 I J else Q 1 I J))
set_option maxRecDepth 100000 in
set_option maxHeartbeats 4000000 in
theorem w_Model_isState_b0 {Γ : Ctx} {Q : Int32 → MI → MJ → Prop} {x1 : Int32} {x2 : Int32}  (X : Cx Γ cX11_isState 3 RX11 0) (Y : Rt Γ (Pi Q) (Option.some Jvm.ClassFile.FieldType.boolean))   {I : MI} {J : MJ} (h : f_Model_isState x1 x2 I J Q) : Wp Γ 3 0 [(0, .ref (ad Γ 177)), (1, .int x1), (2, .int x2)] [] I J := by
  unfold f_Model_isState at h
  refine wp_iload_n X dX11_isState_0 2 rfl ?_
  refine wp_if_lt (tgt := 18) X dX11_isState_1 (by decide) (fun hc => ?_) (fun hc => ?_)
  · have h := ite_t h hc
    refine wp_iconst X dX11_isState_18 ic_0 ?_
    exact wp_zret X Y dX11_isState_19 (by decide) ⟨_, rfl, h⟩
  · have h := ite_f h hc
    refine wp_iload_n X dX11_isState_4 2 rfl ?_
    refine wp_aload_n X dX11_isState_5 0 rfl ?_
    refine gf_X11_33 (o' := 185) X sh_177 rfl dX11_isState_6 ?_
    refine wp_iload_n X dX11_isState_9 1 rfl ?_
    obtain ⟨hb10, h⟩ := h
    refine wp_iald X sh_185 hb10 dX11_isState_10 ?_
    refine wp_icmp_ge (tgt := 18) X dX11_isState_11 (by decide) (fun hc => ?_) (fun hc => ?_)
    · have h := ite_t h hc
      refine wp_iconst X dX11_isState_18 ic_0 ?_
      exact wp_zret X Y dX11_isState_19 (by decide) ⟨_, rfl, h⟩
    · have h := ite_f h hc
      refine wp_iconst X dX11_isState_14 ic_1 ?_
      refine wp_goto (tgt := 19) X dX11_isState_15 (by decide) ?_
      exact wp_zret X Y dX11_isState_19 (by decide) ⟨_, rfl, h⟩

theorem c_Model_isState {l : Launch} {g : GE} (hg : Inj g) {I : MI} {J : MJ} {Q : Int32 → MI → MJ → Prop} {x1 : Int32} {x2 : Int32}  (h : f_Model_isState x1 x2 I J Q) : Cm l g yX11_isState cX11_isState 3 (Option.some Jvm.ClassFile.FieldType.boolean) 0 [.ref (g.1 177), .int x1, .int x2] I J (Pi Q) := by
  refine Cm.of (As := fun ad => [.ref (ad 177), .int x1, .int x2]) hg pn_X11 (Nat.le_of_ble_eq_true rfl) ?_
  exact (fun Γ _ _ X Y => w_Model_isState_b0 X Y  h)
theorem cv_Model_isState {Γ : Ctx} {cc : ByteArray} {nL d pc index : Nat} {own : String} {L : List (Nat × Value)} {rest : List Value} {I : MI} {J : MJ} {Q : Int32 → MI → MJ → Prop} {x1 : Int32} {x2 : Int32} (X : Cx Γ cc nL own d) (hd : decode cc pc = .ok (.invokevirtual index, 3)) (hlink : Cond.methodLink own index yX11_isState ∈ TT)  (h : f_Model_isState x1 x2 I J Q) (hrest : (rest.map fun v => v.category).sum ≤ 8) (hdd : 0 + 1 ≤ d) (kk : ∀ (r : Int32) (I' : MI) (J' : MJ), Q r I' J' → Wp Γ nL (pc + 3) L (.int r :: rest) I' J') : Wp Γ nL pc L (.int x2 :: .int x1 :: .ref (ad Γ 177) :: rest) I J :=
  wp_callV (As := [.int x1, .int x2]) (rest := rest) (T := TX11) (N := 62) X hd hlink mv_X11_isState sh_177 (by decide) rfl (c_Model_isState X.inj  h) rfl rfl hrest hdd (fun v I' J' hv => by obtain ⟨r, rfl, hq⟩ := hv; exact kk r I' J' hq)
theorem dX11_hasRow_0 : decode cX11_hasRow 0 = .ok (.aload_n 0, 1) := by decide +kernel
theorem dX11_hasRow_1 : decode cX11_hasRow 1 = .ok (.getfield 42, 3) := by decide +kernel
theorem dX11_hasRow_4 : decode cX11_hasRow 4 = .ok (.bipush 14, 2) := by decide +kernel
theorem dX11_hasRow_6 : decode cX11_hasRow 6 = .ok (.iload_n 1, 1) := by decide +kernel
theorem dX11_hasRow_7 : decode cX11_hasRow 7 = .ok (.imul, 1) := by decide +kernel
theorem dX11_hasRow_8 : decode cX11_hasRow 8 = .ok (.iload_n 2, 1) := by decide +kernel
theorem dX11_hasRow_9 : decode cX11_hasRow 9 = .ok (.iadd, 1) := by decide +kernel
theorem dX11_hasRow_10 : decode cX11_hasRow 10 = .ok (.iaload, 1) := by decide +kernel
theorem dX11_hasRow_11 : decode cX11_hasRow 11 = .ok (.ifCond .lt 7, 3) := by decide +kernel
theorem dX11_hasRow_14 : decode cX11_hasRow 14 = .ok (.iconst 1, 1) := by decide +kernel
theorem dX11_hasRow_15 : decode cX11_hasRow 15 = .ok (.goto 4, 3) := by decide +kernel
theorem dX11_hasRow_18 : decode cX11_hasRow 18 = .ok (.iconst 0, 1) := by decide +kernel
theorem dX11_hasRow_19 : decode cX11_hasRow 19 = .ok (.ireturn, 1) := by decide +kernel
def f_Model_hasRow (x1 : Int32) (x2 : Int32) (I : MI) (J : MJ) (Q : Int32 → MI → MJ → Prop) : Prop :=
  vp_in ((14 * x1) + x2) 280 ∧ (if (I 188 ((14 * x1) + x2).toNatClampNeg) < 0 then Q 0 I J else Q 1 I J)
set_option maxRecDepth 100000 in
set_option maxHeartbeats 4000000 in
theorem w_Model_hasRow_b0 {Γ : Ctx} {Q : Int32 → MI → MJ → Prop} {x1 : Int32} {x2 : Int32}  (X : Cx Γ cX11_hasRow 3 RX11 0) (Y : Rt Γ (Pi Q) (Option.some Jvm.ClassFile.FieldType.boolean))   {I : MI} {J : MJ} (h : f_Model_hasRow x1 x2 I J Q) : Wp Γ 3 0 [(0, .ref (ad Γ 177)), (1, .int x1), (2, .int x2)] [] I J := by
  unfold f_Model_hasRow at h
  refine wp_aload_n X dX11_hasRow_0 0 rfl ?_
  refine gf_X11_42 (o' := 188) X sh_177 rfl dX11_hasRow_1 ?_
  refine wp_bipush X dX11_hasRow_4 bi_14 ?_
  refine wp_iload_n X dX11_hasRow_6 1 rfl ?_
  refine wp_imul X dX11_hasRow_7 ?_
  refine wp_iload_n X dX11_hasRow_8 2 rfl ?_
  refine wp_iadd X dX11_hasRow_9 ?_
  obtain ⟨hb10, h⟩ := h
  refine wp_iald X sh_188 hb10 dX11_hasRow_10 ?_
  refine wp_if_lt (tgt := 18) X dX11_hasRow_11 (by decide) (fun hc => ?_) (fun hc => ?_)
  · have h := ite_t h hc
    refine wp_iconst X dX11_hasRow_18 ic_0 ?_
    exact wp_zret X Y dX11_hasRow_19 (by decide) ⟨_, rfl, h⟩
  · have h := ite_f h hc
    refine wp_iconst X dX11_hasRow_14 ic_1 ?_
    refine wp_goto (tgt := 19) X dX11_hasRow_15 (by decide) ?_
    exact wp_zret X Y dX11_hasRow_19 (by decide) ⟨_, rfl, h⟩

theorem c_Model_hasRow {l : Launch} {g : GE} (hg : Inj g) {I : MI} {J : MJ} {Q : Int32 → MI → MJ → Prop} {x1 : Int32} {x2 : Int32}  (h : f_Model_hasRow x1 x2 I J Q) : Cm l g yX11_hasRow cX11_hasRow 3 (Option.some Jvm.ClassFile.FieldType.boolean) 0 [.ref (g.1 177), .int x1, .int x2] I J (Pi Q) := by
  refine Cm.of (As := fun ad => [.ref (ad 177), .int x1, .int x2]) hg pn_X11 (Nat.le_of_ble_eq_true rfl) ?_
  exact (fun Γ _ _ X Y => w_Model_hasRow_b0 X Y  h)
theorem cv_Model_hasRow {Γ : Ctx} {cc : ByteArray} {nL d pc index : Nat} {own : String} {L : List (Nat × Value)} {rest : List Value} {I : MI} {J : MJ} {Q : Int32 → MI → MJ → Prop} {x1 : Int32} {x2 : Int32} (X : Cx Γ cc nL own d) (hd : decode cc pc = .ok (.invokevirtual index, 3)) (hlink : Cond.methodLink own index yX11_hasRow ∈ TT)  (h : f_Model_hasRow x1 x2 I J Q) (hrest : (rest.map fun v => v.category).sum ≤ 8) (hdd : 0 + 1 ≤ d) (kk : ∀ (r : Int32) (I' : MI) (J' : MJ), Q r I' J' → Wp Γ nL (pc + 3) L (.int r :: rest) I' J') : Wp Γ nL pc L (.int x2 :: .int x1 :: .ref (ad Γ 177) :: rest) I J :=
  wp_callV (As := [.int x1, .int x2]) (rest := rest) (T := TX11) (N := 62) X hd hlink mv_X11_hasRow sh_177 (by decide) rfl (c_Model_hasRow X.inj  h) rfl rfl hrest hdd (fun v I' J' hv => by obtain ⟨r, rfl, hq⟩ := hv; exact kk r I' J' hq)
theorem dX11_hasTake_0 : decode cX11_hasTake 0 = .ok (.iload_n 3, 1) := by decide +kernel
theorem dX11_hasTake_1 : decode cX11_hasTake 1 = .ok (.ifCond .lt 22, 3) := by decide +kernel
theorem dX11_hasTake_4 : decode cX11_hasTake 4 = .ok (.iload_n 3, 1) := by decide +kernel
theorem dX11_hasTake_5 : decode cX11_hasTake 5 = .ok (.aload_n 0, 1) := by decide +kernel
theorem dX11_hasTake_6 : decode cX11_hasTake 6 = .ok (.getfield 42, 3) := by decide +kernel
theorem dX11_hasTake_9 : decode cX11_hasTake 9 = .ok (.bipush 14, 2) := by decide +kernel
theorem dX11_hasTake_11 : decode cX11_hasTake 11 = .ok (.iload_n 1, 1) := by decide +kernel
theorem dX11_hasTake_12 : decode cX11_hasTake 12 = .ok (.imul, 1) := by decide +kernel
theorem dX11_hasTake_13 : decode cX11_hasTake 13 = .ok (.iload_n 2, 1) := by decide +kernel
theorem dX11_hasTake_14 : decode cX11_hasTake 14 = .ok (.iadd, 1) := by decide +kernel
theorem dX11_hasTake_15 : decode cX11_hasTake 15 = .ok (.iaload, 1) := by decide +kernel
theorem dX11_hasTake_16 : decode cX11_hasTake 16 = .ok (.if_icmp .ge 7, 3) := by decide +kernel
theorem dX11_hasTake_19 : decode cX11_hasTake 19 = .ok (.iconst 1, 1) := by decide +kernel
theorem dX11_hasTake_20 : decode cX11_hasTake 20 = .ok (.goto 4, 3) := by decide +kernel
theorem dX11_hasTake_23 : decode cX11_hasTake 23 = .ok (.iconst 0, 1) := by decide +kernel
theorem dX11_hasTake_24 : decode cX11_hasTake 24 = .ok (.ireturn, 1) := by decide +kernel
def f_Model_hasTake (x1 : Int32) (x2 : Int32) (x3 : Int32) (I : MI) (J : MJ) (Q : Int32 → MI → MJ → Prop) : Prop :=
  (if x3 < 0 then Q 0 I J else vp_in ((14 * x1) + x2) 280 ∧ (if (I 188 ((14 * x1) + x2).toNatClampNeg) ≤ x3 then Q 0 I J else Q 1 I J))
set_option maxRecDepth 100000 in
set_option maxHeartbeats 4000000 in
theorem w_Model_hasTake_b0 {Γ : Ctx} {Q : Int32 → MI → MJ → Prop} {x1 : Int32} {x2 : Int32} {x3 : Int32}  (X : Cx Γ cX11_hasTake 4 RX11 0) (Y : Rt Γ (Pi Q) (Option.some Jvm.ClassFile.FieldType.boolean))   {I : MI} {J : MJ} (h : f_Model_hasTake x1 x2 x3 I J Q) : Wp Γ 4 0 [(0, .ref (ad Γ 177)), (1, .int x1), (2, .int x2), (3, .int x3)] [] I J := by
  unfold f_Model_hasTake at h
  refine wp_iload_n X dX11_hasTake_0 3 rfl ?_
  refine wp_if_lt (tgt := 23) X dX11_hasTake_1 (by decide) (fun hc => ?_) (fun hc => ?_)
  · have h := ite_t h hc
    refine wp_iconst X dX11_hasTake_23 ic_0 ?_
    exact wp_zret X Y dX11_hasTake_24 (by decide) ⟨_, rfl, h⟩
  · have h := ite_f h hc
    refine wp_iload_n X dX11_hasTake_4 3 rfl ?_
    refine wp_aload_n X dX11_hasTake_5 0 rfl ?_
    refine gf_X11_42 (o' := 188) X sh_177 rfl dX11_hasTake_6 ?_
    refine wp_bipush X dX11_hasTake_9 bi_14 ?_
    refine wp_iload_n X dX11_hasTake_11 1 rfl ?_
    refine wp_imul X dX11_hasTake_12 ?_
    refine wp_iload_n X dX11_hasTake_13 2 rfl ?_
    refine wp_iadd X dX11_hasTake_14 ?_
    obtain ⟨hb15, h⟩ := h
    refine wp_iald X sh_188 hb15 dX11_hasTake_15 ?_
    refine wp_icmp_ge (tgt := 23) X dX11_hasTake_16 (by decide) (fun hc => ?_) (fun hc => ?_)
    · have h := ite_t h hc
      refine wp_iconst X dX11_hasTake_23 ic_0 ?_
      exact wp_zret X Y dX11_hasTake_24 (by decide) ⟨_, rfl, h⟩
    · have h := ite_f h hc
      refine wp_iconst X dX11_hasTake_19 ic_1 ?_
      refine wp_goto (tgt := 24) X dX11_hasTake_20 (by decide) ?_
      exact wp_zret X Y dX11_hasTake_24 (by decide) ⟨_, rfl, h⟩

theorem c_Model_hasTake {l : Launch} {g : GE} (hg : Inj g) {I : MI} {J : MJ} {Q : Int32 → MI → MJ → Prop} {x1 : Int32} {x2 : Int32} {x3 : Int32}  (h : f_Model_hasTake x1 x2 x3 I J Q) : Cm l g yX11_hasTake cX11_hasTake 4 (Option.some Jvm.ClassFile.FieldType.boolean) 0 [.ref (g.1 177), .int x1, .int x2, .int x3] I J (Pi Q) := by
  refine Cm.of (As := fun ad => [.ref (ad 177), .int x1, .int x2, .int x3]) hg pn_X11 (Nat.le_of_ble_eq_true rfl) ?_
  exact (fun Γ _ _ X Y => w_Model_hasTake_b0 X Y  h)
theorem cv_Model_hasTake {Γ : Ctx} {cc : ByteArray} {nL d pc index : Nat} {own : String} {L : List (Nat × Value)} {rest : List Value} {I : MI} {J : MJ} {Q : Int32 → MI → MJ → Prop} {x1 : Int32} {x2 : Int32} {x3 : Int32} (X : Cx Γ cc nL own d) (hd : decode cc pc = .ok (.invokevirtual index, 3)) (hlink : Cond.methodLink own index yX11_hasTake ∈ TT)  (h : f_Model_hasTake x1 x2 x3 I J Q) (hrest : (rest.map fun v => v.category).sum ≤ 8) (hdd : 0 + 1 ≤ d) (kk : ∀ (r : Int32) (I' : MI) (J' : MJ), Q r I' J' → Wp Γ nL (pc + 3) L (.int r :: rest) I' J') : Wp Γ nL pc L (.int x3 :: .int x2 :: .int x1 :: .ref (ad Γ 177) :: rest) I J :=
  wp_callV (As := [.int x1, .int x2, .int x3]) (rest := rest) (T := TX11) (N := 62) X hd hlink mv_X11_hasTake sh_177 (by decide) rfl (c_Model_hasTake X.inj  h) rfl rfl hrest hdd (fun v I' J' hv => by obtain ⟨r, rfl, hq⟩ := hv; exact kk r I' J' hq)
theorem dX11_spot_0 : decode cX11_spot 0 = .ok (.iconst 4, 1) := by decide +kernel
theorem dX11_spot_1 : decode cX11_spot 1 = .ok (.bipush 14, 2) := by decide +kernel
theorem dX11_spot_3 : decode cX11_spot 3 = .ok (.iload_n 0, 1) := by decide +kernel
theorem dX11_spot_4 : decode cX11_spot 4 = .ok (.imul, 1) := by decide +kernel
theorem dX11_spot_5 : decode cX11_spot 5 = .ok (.iload_n 1, 1) := by decide +kernel
theorem dX11_spot_6 : decode cX11_spot 6 = .ok (.iadd, 1) := by decide +kernel
theorem dX11_spot_7 : decode cX11_spot 7 = .ok (.imul, 1) := by decide +kernel
theorem dX11_spot_8 : decode cX11_spot 8 = .ok (.iload_n 2, 1) := by decide +kernel
theorem dX11_spot_9 : decode cX11_spot 9 = .ok (.iadd, 1) := by decide +kernel
theorem dX11_spot_10 : decode cX11_spot 10 = .ok (.ireturn, 1) := by decide +kernel
def f_Model_spot (x0 : Int32) (x1 : Int32) (x2 : Int32) (I : MI) (J : MJ) (Q : Int32 → MI → MJ → Prop) : Prop :=
  Q ((4 * ((14 * x0) + x1)) + x2) I J
set_option maxRecDepth 100000 in
set_option maxHeartbeats 4000000 in
theorem w_Model_spot_b0 {Γ : Ctx} {Q : Int32 → MI → MJ → Prop} {x0 : Int32} {x1 : Int32} {x2 : Int32}  (X : Cx Γ cX11_spot 3 RX11 0) (Y : Rt Γ (Pi Q) (Option.some Jvm.ClassFile.FieldType.int))   {I : MI} {J : MJ} (h : f_Model_spot x0 x1 x2 I J Q) : Wp Γ 3 0 [(0, .int x0), (1, .int x1), (2, .int x2)] [] I J := by
  unfold f_Model_spot at h
  refine wp_iconst X dX11_spot_0 ic_4 ?_
  refine wp_bipush X dX11_spot_1 bi_14 ?_
  refine wp_iload_n X dX11_spot_3 0 rfl ?_
  refine wp_imul X dX11_spot_4 ?_
  refine wp_iload_n X dX11_spot_5 1 rfl ?_
  refine wp_iadd X dX11_spot_6 ?_
  refine wp_imul X dX11_spot_7 ?_
  refine wp_iload_n X dX11_spot_8 2 rfl ?_
  refine wp_iadd X dX11_spot_9 ?_
  exact wp_iret X Y dX11_spot_10 ⟨_, rfl, h⟩

theorem c_Model_spot {l : Launch} {g : GE} (hg : Inj g) {I : MI} {J : MJ} {Q : Int32 → MI → MJ → Prop} {x0 : Int32} {x1 : Int32} {x2 : Int32}  (h : f_Model_spot x0 x1 x2 I J Q) : Cm l g yX11_spot cX11_spot 3 (Option.some Jvm.ClassFile.FieldType.int) 0 [.int x0, .int x1, .int x2] I J (Pi Q) := by
  refine Cm.of (As := fun ad => [.int x0, .int x1, .int x2]) hg pn_X11 (Nat.le_of_ble_eq_true rfl) ?_
  exact (fun Γ _ _ X Y => w_Model_spot_b0 X Y  h)
theorem cs_Model_spot {Γ : Ctx} {cc : ByteArray} {nL d pc index : Nat} {own : String} {L : List (Nat × Value)} {rest : List Value} {I : MI} {J : MJ} {Q : Int32 → MI → MJ → Prop} {x0 : Int32} {x1 : Int32} {x2 : Int32} (X : Cx Γ cc nL own d) (hd : decode cc pc = .ok (.invokestatic index, 3)) (hlink : Cond.methodLink own index yX11_spot ∈ TT)  (h : f_Model_spot x0 x1 x2 I J Q) (hrest : (rest.map fun v => v.category).sum ≤ 8) (hdd : 0 + 1 ≤ d) (kk : ∀ (r : Int32) (I' : MI) (J' : MJ), Q r I' J' → Wp Γ nL (pc + 3) L (.int r :: rest) I' J') : Wp Γ nL pc L (.int x2 :: .int x1 :: .int x0 :: rest) I J :=
  wp_callS (As := [.int x0, .int x1, .int x2]) (rest := rest) X hd hlink mv_X11_spot (c_Model_spot X.inj  h) rfl rfl hrest hdd (fun v I' J' hv => by obtain ⟨r, rfl, hq⟩ := hv; exact kk r I' J' hq)
theorem dX11_clear_0 : decode cX11_clear 0 = .ok (.aload_n 0, 1) := by decide +kernel
theorem dX11_clear_1 : decode cX11_clear 1 = .ok (.getfield 30, 3) := by decide +kernel
theorem dX11_clear_4 : decode cX11_clear 4 = .ok (.iload_n 1, 1) := by decide +kernel
theorem dX11_clear_5 : decode cX11_clear 5 = .ok (.iload_n 2, 1) := by decide +kernel
theorem dX11_clear_6 : decode cX11_clear 6 = .ok (.iastore, 1) := by decide +kernel
theorem dX11_clear_7 : decode cX11_clear 7 = .ok (.aload_n 0, 1) := by decide +kernel
theorem dX11_clear_8 : decode cX11_clear 8 = .ok (.getfield 33, 3) := by decide +kernel
theorem dX11_clear_11 : decode cX11_clear 11 = .ok (.iload_n 1, 1) := by decide +kernel
theorem dX11_clear_12 : decode cX11_clear 12 = .ok (.iload_n 3, 1) := by decide +kernel
theorem dX11_clear_13 : decode cX11_clear 13 = .ok (.iastore, 1) := by decide +kernel
theorem dX11_clear_14 : decode cX11_clear 14 = .ok (.aload_n 0, 1) := by decide +kernel
theorem dX11_clear_15 : decode cX11_clear 15 = .ok (.getfield 36, 3) := by decide +kernel
theorem dX11_clear_18 : decode cX11_clear 18 = .ok (.iload_n 1, 1) := by decide +kernel
theorem dX11_clear_19 : decode cX11_clear 19 = .ok (.iload 4, 2) := by decide +kernel
theorem dX11_clear_21 : decode cX11_clear 21 = .ok (.iastore, 1) := by decide +kernel
theorem dX11_clear_22 : decode cX11_clear 22 = .ok (.iconst 0, 1) := by decide +kernel
theorem dX11_clear_23 : decode cX11_clear 23 = .ok (.istore 5, 2) := by decide +kernel
theorem dX11_clear_25 : decode cX11_clear 25 = .ok (.iload 5, 2) := by decide +kernel
theorem dX11_clear_27 : decode cX11_clear 27 = .ok (.bipush 14, 2) := by decide +kernel
theorem dX11_clear_29 : decode cX11_clear 29 = .ok (.if_icmp .ge 79, 3) := by decide +kernel
theorem dX11_clear_32 : decode cX11_clear 32 = .ok (.aload_n 0, 1) := by decide +kernel
theorem dX11_clear_33 : decode cX11_clear 33 = .ok (.getfield 39, 3) := by decide +kernel
theorem dX11_clear_36 : decode cX11_clear 36 = .ok (.bipush 14, 2) := by decide +kernel
theorem dX11_clear_38 : decode cX11_clear 38 = .ok (.iload_n 1, 1) := by decide +kernel
theorem dX11_clear_39 : decode cX11_clear 39 = .ok (.imul, 1) := by decide +kernel
theorem dX11_clear_40 : decode cX11_clear 40 = .ok (.iload 5, 2) := by decide +kernel
theorem dX11_clear_42 : decode cX11_clear 42 = .ok (.iadd, 1) := by decide +kernel
theorem dX11_clear_43 : decode cX11_clear 43 = .ok (.iconst 0, 1) := by decide +kernel
theorem dX11_clear_44 : decode cX11_clear 44 = .ok (.iastore, 1) := by decide +kernel
theorem dX11_clear_45 : decode cX11_clear 45 = .ok (.aload_n 0, 1) := by decide +kernel
theorem dX11_clear_46 : decode cX11_clear 46 = .ok (.getfield 42, 3) := by decide +kernel
theorem dX11_clear_49 : decode cX11_clear 49 = .ok (.bipush 14, 2) := by decide +kernel
theorem dX11_clear_51 : decode cX11_clear 51 = .ok (.iload_n 1, 1) := by decide +kernel
theorem dX11_clear_52 : decode cX11_clear 52 = .ok (.imul, 1) := by decide +kernel
theorem dX11_clear_53 : decode cX11_clear 53 = .ok (.iload 5, 2) := by decide +kernel
theorem dX11_clear_55 : decode cX11_clear 55 = .ok (.iadd, 1) := by decide +kernel
theorem dX11_clear_56 : decode cX11_clear 56 = .ok (.iload 4, 2) := by decide +kernel
theorem dX11_clear_58 : decode cX11_clear 58 = .ok (.iastore, 1) := by decide +kernel
theorem dX11_clear_59 : decode cX11_clear 59 = .ok (.iconst 0, 1) := by decide +kernel
theorem dX11_clear_60 : decode cX11_clear 60 = .ok (.istore 6, 2) := by decide +kernel
theorem dX11_clear_62 : decode cX11_clear 62 = .ok (.iload 6, 2) := by decide +kernel
theorem dX11_clear_64 : decode cX11_clear 64 = .ok (.iconst 4, 1) := by decide +kernel
theorem dX11_clear_65 : decode cX11_clear 65 = .ok (.if_icmp .ge 37, 3) := by decide +kernel
theorem dX11_clear_68 : decode cX11_clear 68 = .ok (.aload_n 0, 1) := by decide +kernel
theorem dX11_clear_69 : decode cX11_clear 69 = .ok (.getfield 45, 3) := by decide +kernel
theorem dX11_clear_72 : decode cX11_clear 72 = .ok (.iload_n 1, 1) := by decide +kernel
theorem dX11_clear_73 : decode cX11_clear 73 = .ok (.iload 5, 2) := by decide +kernel
theorem dX11_clear_75 : decode cX11_clear 75 = .ok (.iload 6, 2) := by decide +kernel
theorem dX11_clear_77 : decode cX11_clear 77 = .ok (.invokestatic 149, 3) := by decide +kernel
theorem dX11_clear_80 : decode cX11_clear 80 = .ok (.iconst 0, 1) := by decide +kernel
theorem dX11_clear_81 : decode cX11_clear 81 = .ok (.iastore, 1) := by decide +kernel
theorem dX11_clear_82 : decode cX11_clear 82 = .ok (.aload_n 0, 1) := by decide +kernel
theorem dX11_clear_83 : decode cX11_clear 83 = .ok (.getfield 48, 3) := by decide +kernel
theorem dX11_clear_86 : decode cX11_clear 86 = .ok (.iload_n 1, 1) := by decide +kernel
theorem dX11_clear_87 : decode cX11_clear 87 = .ok (.iload 5, 2) := by decide +kernel
theorem dX11_clear_89 : decode cX11_clear 89 = .ok (.iload 6, 2) := by decide +kernel
theorem dX11_clear_91 : decode cX11_clear 91 = .ok (.invokestatic 149, 3) := by decide +kernel
theorem dX11_clear_94 : decode cX11_clear 94 = .ok (.iconst 0, 1) := by decide +kernel
theorem dX11_clear_95 : decode cX11_clear 95 = .ok (.iastore, 1) := by decide +kernel
theorem dX11_clear_96 : decode cX11_clear 96 = .ok (.iinc 6 1, 3) := by decide +kernel
theorem dX11_clear_99 : decode cX11_clear 99 = .ok (.goto (-37), 3) := by decide +kernel
theorem dX11_clear_102 : decode cX11_clear 102 = .ok (.iinc 5 1, 3) := by decide +kernel
theorem dX11_clear_105 : decode cX11_clear 105 = .ok (.goto (-80), 3) := by decide +kernel
theorem dX11_clear_108 : decode cX11_clear 108 = .ok (.return_, 1) := by decide +kernel
def f_Model_clear_L62 (x1 : Int32) (x5 : Int32) (k102 : MI → MJ → Prop) : Nat → Int32 → MI → MJ → Prop
  | 0, _, _, _ => False
  | nf62 + 1, x6, I, J =>
  (if 4 ≤ x6 then k102 I J else f_Model_spot x1 x5 x6 I J (fun r77 I77 J77 => vp_in r77 1120 ∧ ∀ I81 : MI, I81 = sI I77 189 (upd (I77 189) r77.toNatClampNeg 0) → f_Model_spot x1 x5 x6 I81 J77 (fun r91 I91 J91 => vp_in r91 1120 ∧ ∀ I95 : MI, I95 = sI I91 190 (upd (I91 190) r91.toNatClampNeg 0) → ∀ t96 : Int32, t96 = x6 + 1 → f_Model_clear_L62 x1 x5 k102 nf62 t96 I95 J91)))
def f_Model_clear_L25 (x1 : Int32) (x4 : Int32) (k108 : MI → MJ → Prop) : Nat → Int32 → MI → MJ → Prop
  | 0, _, _, _ => False
  | nf25 + 1, x5, I, J =>
  (if 14 ≤ x5 then k108 I J else vp_in ((14 * x1) + x5) 280 ∧ ∀ I44 : MI, I44 = sI I 187 (upd (I 187) ((14 * x1) + x5).toNatClampNeg 0) → vp_in ((14 * x1) + x5) 280 ∧ ∀ I58 : MI, I58 = sI I44 188 (upd (I44 188) ((14 * x1) + x5).toNatClampNeg x4) → ∃ n, f_Model_clear_L62 x1 x5 (fun (I : MI) (J : MJ) => ∀ t102 : Int32, t102 = x5 + 1 → f_Model_clear_L25 x1 x4 k108 nf25 t102 I J) n 0 I58 J)
def f_Model_clear (x1 : Int32) (x2 : Int32) (x3 : Int32) (x4 : Int32) (I : MI) (J : MJ) (Q : MI → MJ → Prop) : Prop :=
  vp_in x1 20 ∧ ∀ I6 : MI, I6 = sI I 184 (upd (I 184) x1.toNatClampNeg x2) → vp_in x1 20 ∧ ∀ I13 : MI, I13 = sI I6 185 (upd (I6 185) x1.toNatClampNeg x3) → vp_in x1 20 ∧ ∀ I21 : MI, I21 = sI I13 186 (upd (I13 186) x1.toNatClampNeg x4) → ∃ n, f_Model_clear_L25 x1 x4 (fun (I : MI) (J : MJ) => Q I J) n 0 I21 J
set_option maxRecDepth 100000 in
set_option maxHeartbeats 4000000 in
theorem w_Model_clear_L62 {Γ : Ctx} {Q : MI → MJ → Prop} {x1 : Int32} {x4 : Int32} {x5 : Int32} {k102 : MI → MJ → Prop} (X : Cx Γ cX11_clear 7 RX11 1) (Y : Rt Γ (Pv Q) (Option.none : Option Jvm.ClassFile.FieldType))  (hk102 : ∀ (I : MI) (J : MJ), k102 I J → Wp Γ 7 102 [(0, .ref (ad Γ 177)), (1, .int x1), (4, .int x4), (5, .int x5)] [] I J) : ∀ (n : Nat) (x6 : Int32) (I : MI) (J : MJ), f_Model_clear_L62 x1 x5 k102 n x6 I J → Wp Γ 7 62 [(0, .ref (ad Γ 177)), (1, .int x1), (4, .int x4), (5, .int x5), (6, .int x6)] [] I J := by
  intro n
  induction n with
  | zero => intro x6 I J h; exact absurd h (by simp [f_Model_clear_L62])
  | succ n ih =>
  intro x6 I J h
  unfold f_Model_clear_L62 at h
  refine wp_iload X dX11_clear_62 4 rfl ?_
  refine wp_iconst X dX11_clear_64 ic_4 ?_
  refine wp_icmp_ge (tgt := 102) X dX11_clear_65 (by decide) (fun hc => ?_) (fun hc => ?_)
  · have h := ite_t h hc
    refine wp_sub X [0, 1, 2, 3] rfl ?_
    exact hk102 _ _ h
  · have h := ite_f h hc
    refine wp_aload_n X dX11_clear_68 0 rfl ?_
    refine gf_X11_45 (o' := 189) X sh_177 rfl dX11_clear_69 ?_
    refine wp_iload_n X dX11_clear_72 1 rfl ?_
    refine wp_iload X dX11_clear_73 3 rfl ?_
    refine wp_iload X dX11_clear_75 4 rfl ?_
    refine cs_Model_spot X dX11_clear_77 ml_X11_149  h (Nat.le_of_ble_eq_true rfl) (by decide) (fun r77 I77 J77 h => ?_)
    refine wp_iconst X dX11_clear_80 ic_0 ?_
    obtain ⟨hb81, h⟩ := h
    refine wp_iast X sh_189 hb81 dX11_clear_81 ?_
    refine wp_memI (fun I81 eI81 => ?_)
    have h := h I81 eI81
    refine wp_aload_n X dX11_clear_82 0 rfl ?_
    refine gf_X11_48 (o' := 190) X sh_177 rfl dX11_clear_83 ?_
    refine wp_iload_n X dX11_clear_86 1 rfl ?_
    refine wp_iload X dX11_clear_87 3 rfl ?_
    refine wp_iload X dX11_clear_89 4 rfl ?_
    refine cs_Model_spot X dX11_clear_91 ml_X11_149  h (Nat.le_of_ble_eq_true rfl) (by decide) (fun r91 I91 J91 h => ?_)
    refine wp_iconst X dX11_clear_94 ic_0 ?_
    obtain ⟨hb95, h⟩ := h
    refine wp_iast X sh_190 hb95 dX11_clear_95 ?_
    refine wp_memI (fun I95 eI95 => ?_)
    have h := h I95 eI95
    obtain ⟨t96, et96⟩ : ∃ y : Int32, y = x6 + 1 := ⟨_, rfl⟩
    have h := h t96 et96
    refine wp_iinc (L' := [(6, .int t96), (0, .ref (ad Γ 177)), (1, .int x1), (4, .int x4), (5, .int x5)]) X dX11_clear_96 4 rfl (ii_1 et96) (by decide) rfl ?_
    refine wp_goto (tgt := 62) X dX11_clear_99 (by decide) ?_
    refine wp_sub X [1, 2, 3, 4, 0] rfl ?_
    exact ih _ _ _ h

set_option maxRecDepth 100000 in
set_option maxHeartbeats 4000000 in
theorem w_Model_clear_L25 {Γ : Ctx} {Q : MI → MJ → Prop} {x1 : Int32} {x4 : Int32} {k108 : MI → MJ → Prop} (X : Cx Γ cX11_clear 7 RX11 1) (Y : Rt Γ (Pv Q) (Option.none : Option Jvm.ClassFile.FieldType))  (hk108 : ∀ (I : MI) (J : MJ), k108 I J → Wp Γ 7 108 [] [] I J) : ∀ (n : Nat) (x5 : Int32) (I : MI) (J : MJ), f_Model_clear_L25 x1 x4 k108 n x5 I J → Wp Γ 7 25 [(0, .ref (ad Γ 177)), (1, .int x1), (4, .int x4), (5, .int x5)] [] I J := by
  intro n
  induction n with
  | zero => intro x5 I J h; exact absurd h (by simp [f_Model_clear_L25])
  | succ n ih =>
  intro x5 I J h
  unfold f_Model_clear_L25 at h
  refine wp_iload X dX11_clear_25 3 rfl ?_
  refine wp_bipush X dX11_clear_27 bi_14 ?_
  refine wp_icmp_ge (tgt := 108) X dX11_clear_29 (by decide) (fun hc => ?_) (fun hc => ?_)
  · have h := ite_t h hc
    refine wp_sub X [] rfl ?_
    exact hk108 _ _ h
  · have h := ite_f h hc
    refine wp_aload_n X dX11_clear_32 0 rfl ?_
    refine gf_X11_39 (o' := 187) X sh_177 rfl dX11_clear_33 ?_
    refine wp_bipush X dX11_clear_36 bi_14 ?_
    refine wp_iload_n X dX11_clear_38 1 rfl ?_
    refine wp_imul X dX11_clear_39 ?_
    refine wp_iload X dX11_clear_40 3 rfl ?_
    refine wp_iadd X dX11_clear_42 ?_
    refine wp_iconst X dX11_clear_43 ic_0 ?_
    obtain ⟨hb44, h⟩ := h
    refine wp_iast X sh_187 hb44 dX11_clear_44 ?_
    refine wp_memI (fun I44 eI44 => ?_)
    have h := h I44 eI44
    refine wp_aload_n X dX11_clear_45 0 rfl ?_
    refine gf_X11_42 (o' := 188) X sh_177 rfl dX11_clear_46 ?_
    refine wp_bipush X dX11_clear_49 bi_14 ?_
    refine wp_iload_n X dX11_clear_51 1 rfl ?_
    refine wp_imul X dX11_clear_52 ?_
    refine wp_iload X dX11_clear_53 3 rfl ?_
    refine wp_iadd X dX11_clear_55 ?_
    refine wp_iload X dX11_clear_56 2 rfl ?_
    obtain ⟨hb58, h⟩ := h
    refine wp_iast X sh_188 hb58 dX11_clear_58 ?_
    refine wp_memI (fun I58 eI58 => ?_)
    have h := h I58 eI58
    refine wp_iconst X dX11_clear_59 ic_0 ?_
    refine wp_istore (L' := [(6, .int 0), (0, .ref (ad Γ 177)), (1, .int x1), (4, .int x4), (5, .int x5)]) X dX11_clear_60 (by decide) rfl ?_
    obtain ⟨n, h⟩ := h
    refine wp_sub X [1, 2, 3, 4, 0] rfl ?_
    refine w_Model_clear_L62 X Y  ?_ n _ _ _ h
    · intro I J h
      obtain ⟨t102, et102⟩ : ∃ y : Int32, y = x5 + 1 := ⟨_, rfl⟩
      have h := h t102 et102
      refine wp_iinc (L' := [(5, .int t102), (0, .ref (ad Γ 177)), (1, .int x1), (4, .int x4)]) X dX11_clear_102 3 rfl (ii_1 et102) (by decide) rfl ?_
      refine wp_goto (tgt := 25) X dX11_clear_105 (by decide) ?_
      refine wp_sub X [1, 2, 3, 0] rfl ?_
      exact ih _ _ _ h

set_option maxRecDepth 100000 in
set_option maxHeartbeats 4000000 in
theorem w_Model_clear_b0 {Γ : Ctx} {Q : MI → MJ → Prop} {x1 : Int32} {x2 : Int32} {x3 : Int32} {x4 : Int32}  (X : Cx Γ cX11_clear 7 RX11 1) (Y : Rt Γ (Pv Q) (Option.none : Option Jvm.ClassFile.FieldType))   {I : MI} {J : MJ} (h : f_Model_clear x1 x2 x3 x4 I J Q) : Wp Γ 7 0 [(0, .ref (ad Γ 177)), (1, .int x1), (2, .int x2), (3, .int x3), (4, .int x4)] [] I J := by
  unfold f_Model_clear at h
  refine wp_aload_n X dX11_clear_0 0 rfl ?_
  refine gf_X11_30 (o' := 184) X sh_177 rfl dX11_clear_1 ?_
  refine wp_iload_n X dX11_clear_4 1 rfl ?_
  refine wp_iload_n X dX11_clear_5 2 rfl ?_
  obtain ⟨hb6, h⟩ := h
  refine wp_iast X sh_184 hb6 dX11_clear_6 ?_
  refine wp_memI (fun I6 eI6 => ?_)
  have h := h I6 eI6
  refine wp_aload_n X dX11_clear_7 0 rfl ?_
  refine gf_X11_33 (o' := 185) X sh_177 rfl dX11_clear_8 ?_
  refine wp_iload_n X dX11_clear_11 1 rfl ?_
  refine wp_iload_n X dX11_clear_12 3 rfl ?_
  obtain ⟨hb13, h⟩ := h
  refine wp_iast X sh_185 hb13 dX11_clear_13 ?_
  refine wp_memI (fun I13 eI13 => ?_)
  have h := h I13 eI13
  refine wp_aload_n X dX11_clear_14 0 rfl ?_
  refine gf_X11_36 (o' := 186) X sh_177 rfl dX11_clear_15 ?_
  refine wp_iload_n X dX11_clear_18 1 rfl ?_
  refine wp_iload X dX11_clear_19 4 rfl ?_
  obtain ⟨hb21, h⟩ := h
  refine wp_iast X sh_186 hb21 dX11_clear_21 ?_
  refine wp_memI (fun I21 eI21 => ?_)
  have h := h I21 eI21
  refine wp_iconst X dX11_clear_22 ic_0 ?_
  refine wp_istore (L' := [(5, .int 0), (0, .ref (ad Γ 177)), (1, .int x1), (2, .int x2), (3, .int x3), (4, .int x4)]) X dX11_clear_23 (by decide) rfl ?_
  obtain ⟨n, h⟩ := h
  refine wp_sub X [1, 2, 5, 0] rfl ?_
  refine w_Model_clear_L25 X Y  ?_ n _ _ _ h
  · intro I J h
    exact wp_vret X Y dX11_clear_108 ⟨rfl, h⟩

theorem c_Model_clear {l : Launch} {g : GE} (hg : Inj g) {I : MI} {J : MJ} {Q : MI → MJ → Prop} {x1 : Int32} {x2 : Int32} {x3 : Int32} {x4 : Int32}  (h : f_Model_clear x1 x2 x3 x4 I J Q) : Cm l g yX11_clear cX11_clear 7 (Option.none : Option Jvm.ClassFile.FieldType) 1 [.ref (g.1 177), .int x1, .int x2, .int x3, .int x4] I J (Pv Q) := by
  refine Cm.of (As := fun ad => [.ref (ad 177), .int x1, .int x2, .int x3, .int x4]) hg pn_X11 (Nat.le_of_ble_eq_true rfl) ?_
  exact (fun Γ _ _ X Y => w_Model_clear_b0 X Y  h)
theorem cv_Model_clear {Γ : Ctx} {cc : ByteArray} {nL d pc index : Nat} {own : String} {L : List (Nat × Value)} {rest : List Value} {I : MI} {J : MJ} {Q : MI → MJ → Prop} {x1 : Int32} {x2 : Int32} {x3 : Int32} {x4 : Int32} (X : Cx Γ cc nL own d) (hd : decode cc pc = .ok (.invokevirtual index, 3)) (hlink : Cond.methodLink own index yX11_clear ∈ TT)  (h : f_Model_clear x1 x2 x3 x4 I J Q) (hrest : (rest.map fun v => v.category).sum ≤ 8) (hdd : 1 + 1 ≤ d) (kk : ∀ (I' : MI) (J' : MJ), Q I' J' → Wp Γ nL (pc + 3) L rest I' J') : Wp Γ nL pc L (.int x4 :: .int x3 :: .int x2 :: .int x1 :: .ref (ad Γ 177) :: rest) I J :=
  wp_callV (As := [.int x1, .int x2, .int x3, .int x4]) (rest := rest) (T := TX11) (N := 62) X hd hlink mv_X11_clear sh_177 (by decide) rfl (c_Model_clear X.inj  h) rfl rfl hrest hdd (fun v I' J' hv => by obtain ⟨rfl, hq⟩ := hv; exact kk I' J' hq)
theorem dX11_become_0 : decode cX11_become 0 = .ok (.aload_n 0, 1) := by decide +kernel
theorem dX11_become_1 : decode cX11_become 1 = .ok (.getfield 30, 3) := by decide +kernel
theorem dX11_become_4 : decode cX11_become 4 = .ok (.iload_n 1, 1) := by decide +kernel
theorem dX11_become_5 : decode cX11_become 5 = .ok (.aload_n 0, 1) := by decide +kernel
theorem dX11_become_6 : decode cX11_become 6 = .ok (.getfield 30, 3) := by decide +kernel
theorem dX11_become_9 : decode cX11_become 9 = .ok (.iload_n 2, 1) := by decide +kernel
theorem dX11_become_10 : decode cX11_become 10 = .ok (.iaload, 1) := by decide +kernel
theorem dX11_become_11 : decode cX11_become 11 = .ok (.iastore, 1) := by decide +kernel
theorem dX11_become_12 : decode cX11_become 12 = .ok (.aload_n 0, 1) := by decide +kernel
theorem dX11_become_13 : decode cX11_become 13 = .ok (.getfield 33, 3) := by decide +kernel
theorem dX11_become_16 : decode cX11_become 16 = .ok (.iload_n 1, 1) := by decide +kernel
theorem dX11_become_17 : decode cX11_become 17 = .ok (.aload_n 0, 1) := by decide +kernel
theorem dX11_become_18 : decode cX11_become 18 = .ok (.getfield 33, 3) := by decide +kernel
theorem dX11_become_21 : decode cX11_become 21 = .ok (.iload_n 2, 1) := by decide +kernel
theorem dX11_become_22 : decode cX11_become 22 = .ok (.iaload, 1) := by decide +kernel
theorem dX11_become_23 : decode cX11_become 23 = .ok (.iastore, 1) := by decide +kernel
theorem dX11_become_24 : decode cX11_become 24 = .ok (.aload_n 0, 1) := by decide +kernel
theorem dX11_become_25 : decode cX11_become 25 = .ok (.getfield 36, 3) := by decide +kernel
theorem dX11_become_28 : decode cX11_become 28 = .ok (.iload_n 1, 1) := by decide +kernel
theorem dX11_become_29 : decode cX11_become 29 = .ok (.aload_n 0, 1) := by decide +kernel
theorem dX11_become_30 : decode cX11_become 30 = .ok (.getfield 36, 3) := by decide +kernel
theorem dX11_become_33 : decode cX11_become 33 = .ok (.iload_n 2, 1) := by decide +kernel
theorem dX11_become_34 : decode cX11_become 34 = .ok (.iaload, 1) := by decide +kernel
theorem dX11_become_35 : decode cX11_become 35 = .ok (.iastore, 1) := by decide +kernel
theorem dX11_become_36 : decode cX11_become 36 = .ok (.iconst 0, 1) := by decide +kernel
theorem dX11_become_37 : decode cX11_become 37 = .ok (.istore_n 3, 1) := by decide +kernel
theorem dX11_become_38 : decode cX11_become 38 = .ok (.iload_n 3, 1) := by decide +kernel
theorem dX11_become_39 : decode cX11_become 39 = .ok (.bipush 14, 2) := by decide +kernel
theorem dX11_become_41 : decode cX11_become 41 = .ok (.if_icmp .ge 116, 3) := by decide +kernel
theorem dX11_become_44 : decode cX11_become 44 = .ok (.aload_n 0, 1) := by decide +kernel
theorem dX11_become_45 : decode cX11_become 45 = .ok (.getfield 39, 3) := by decide +kernel
theorem dX11_become_48 : decode cX11_become 48 = .ok (.bipush 14, 2) := by decide +kernel
theorem dX11_become_50 : decode cX11_become 50 = .ok (.iload_n 1, 1) := by decide +kernel
theorem dX11_become_51 : decode cX11_become 51 = .ok (.imul, 1) := by decide +kernel
theorem dX11_become_52 : decode cX11_become 52 = .ok (.iload_n 3, 1) := by decide +kernel
theorem dX11_become_53 : decode cX11_become 53 = .ok (.iadd, 1) := by decide +kernel
theorem dX11_become_54 : decode cX11_become 54 = .ok (.aload_n 0, 1) := by decide +kernel
theorem dX11_become_55 : decode cX11_become 55 = .ok (.getfield 39, 3) := by decide +kernel
theorem dX11_become_58 : decode cX11_become 58 = .ok (.bipush 14, 2) := by decide +kernel
theorem dX11_become_60 : decode cX11_become 60 = .ok (.iload_n 2, 1) := by decide +kernel
theorem dX11_become_61 : decode cX11_become 61 = .ok (.imul, 1) := by decide +kernel
theorem dX11_become_62 : decode cX11_become 62 = .ok (.iload_n 3, 1) := by decide +kernel
theorem dX11_become_63 : decode cX11_become 63 = .ok (.iadd, 1) := by decide +kernel
theorem dX11_become_64 : decode cX11_become 64 = .ok (.iaload, 1) := by decide +kernel
theorem dX11_become_65 : decode cX11_become 65 = .ok (.iastore, 1) := by decide +kernel
theorem dX11_become_66 : decode cX11_become 66 = .ok (.aload_n 0, 1) := by decide +kernel
theorem dX11_become_67 : decode cX11_become 67 = .ok (.getfield 42, 3) := by decide +kernel
theorem dX11_become_70 : decode cX11_become 70 = .ok (.bipush 14, 2) := by decide +kernel
theorem dX11_become_72 : decode cX11_become 72 = .ok (.iload_n 1, 1) := by decide +kernel
theorem dX11_become_73 : decode cX11_become 73 = .ok (.imul, 1) := by decide +kernel
theorem dX11_become_74 : decode cX11_become 74 = .ok (.iload_n 3, 1) := by decide +kernel
theorem dX11_become_75 : decode cX11_become 75 = .ok (.iadd, 1) := by decide +kernel
theorem dX11_become_76 : decode cX11_become 76 = .ok (.aload_n 0, 1) := by decide +kernel
theorem dX11_become_77 : decode cX11_become 77 = .ok (.getfield 42, 3) := by decide +kernel
theorem dX11_become_80 : decode cX11_become 80 = .ok (.bipush 14, 2) := by decide +kernel
theorem dX11_become_82 : decode cX11_become 82 = .ok (.iload_n 2, 1) := by decide +kernel
theorem dX11_become_83 : decode cX11_become 83 = .ok (.imul, 1) := by decide +kernel
theorem dX11_become_84 : decode cX11_become 84 = .ok (.iload_n 3, 1) := by decide +kernel
theorem dX11_become_85 : decode cX11_become 85 = .ok (.iadd, 1) := by decide +kernel
theorem dX11_become_86 : decode cX11_become 86 = .ok (.iaload, 1) := by decide +kernel
theorem dX11_become_87 : decode cX11_become 87 = .ok (.iastore, 1) := by decide +kernel
theorem dX11_become_88 : decode cX11_become 88 = .ok (.iconst 0, 1) := by decide +kernel
theorem dX11_become_89 : decode cX11_become 89 = .ok (.istore 4, 2) := by decide +kernel
theorem dX11_become_91 : decode cX11_become 91 = .ok (.iload 4, 2) := by decide +kernel
theorem dX11_become_93 : decode cX11_become 93 = .ok (.iconst 4, 1) := by decide +kernel
theorem dX11_become_94 : decode cX11_become 94 = .ok (.if_icmp .ge 57, 3) := by decide +kernel
theorem dX11_become_97 : decode cX11_become 97 = .ok (.aload_n 0, 1) := by decide +kernel
theorem dX11_become_98 : decode cX11_become 98 = .ok (.getfield 45, 3) := by decide +kernel
theorem dX11_become_101 : decode cX11_become 101 = .ok (.iload_n 1, 1) := by decide +kernel
theorem dX11_become_102 : decode cX11_become 102 = .ok (.iload_n 3, 1) := by decide +kernel
theorem dX11_become_103 : decode cX11_become 103 = .ok (.iload 4, 2) := by decide +kernel
theorem dX11_become_105 : decode cX11_become 105 = .ok (.invokestatic 149, 3) := by decide +kernel
theorem dX11_become_108 : decode cX11_become 108 = .ok (.aload_n 0, 1) := by decide +kernel
theorem dX11_become_109 : decode cX11_become 109 = .ok (.getfield 45, 3) := by decide +kernel
theorem dX11_become_112 : decode cX11_become 112 = .ok (.iload_n 2, 1) := by decide +kernel
theorem dX11_become_113 : decode cX11_become 113 = .ok (.iload_n 3, 1) := by decide +kernel
theorem dX11_become_114 : decode cX11_become 114 = .ok (.iload 4, 2) := by decide +kernel
theorem dX11_become_116 : decode cX11_become 116 = .ok (.invokestatic 149, 3) := by decide +kernel
theorem dX11_become_119 : decode cX11_become 119 = .ok (.iaload, 1) := by decide +kernel
theorem dX11_become_120 : decode cX11_become 120 = .ok (.iastore, 1) := by decide +kernel
theorem dX11_become_121 : decode cX11_become 121 = .ok (.aload_n 0, 1) := by decide +kernel
theorem dX11_become_122 : decode cX11_become 122 = .ok (.getfield 48, 3) := by decide +kernel
theorem dX11_become_125 : decode cX11_become 125 = .ok (.iload_n 1, 1) := by decide +kernel
theorem dX11_become_126 : decode cX11_become 126 = .ok (.iload_n 3, 1) := by decide +kernel
theorem dX11_become_127 : decode cX11_become 127 = .ok (.iload 4, 2) := by decide +kernel
theorem dX11_become_129 : decode cX11_become 129 = .ok (.invokestatic 149, 3) := by decide +kernel
theorem dX11_become_132 : decode cX11_become 132 = .ok (.aload_n 0, 1) := by decide +kernel
theorem dX11_become_133 : decode cX11_become 133 = .ok (.getfield 48, 3) := by decide +kernel
theorem dX11_become_136 : decode cX11_become 136 = .ok (.iload_n 2, 1) := by decide +kernel
theorem dX11_become_137 : decode cX11_become 137 = .ok (.iload_n 3, 1) := by decide +kernel
theorem dX11_become_138 : decode cX11_become 138 = .ok (.iload 4, 2) := by decide +kernel
theorem dX11_become_140 : decode cX11_become 140 = .ok (.invokestatic 149, 3) := by decide +kernel
theorem dX11_become_143 : decode cX11_become 143 = .ok (.iaload, 1) := by decide +kernel
theorem dX11_become_144 : decode cX11_become 144 = .ok (.iastore, 1) := by decide +kernel
theorem dX11_become_145 : decode cX11_become 145 = .ok (.iinc 4 1, 3) := by decide +kernel
theorem dX11_become_148 : decode cX11_become 148 = .ok (.goto (-57), 3) := by decide +kernel
theorem dX11_become_151 : decode cX11_become 151 = .ok (.iinc 3 1, 3) := by decide +kernel
theorem dX11_become_154 : decode cX11_become 154 = .ok (.goto (-116), 3) := by decide +kernel
theorem dX11_become_157 : decode cX11_become 157 = .ok (.return_, 1) := by decide +kernel
def f_Model_become_L91 (x1 : Int32) (x2 : Int32) (x3 : Int32) (k151 : MI → MJ → Prop) : Nat → Int32 → MI → MJ → Prop
  | 0, _, _, _ => False
  | nf91 + 1, x4, I, J =>
  (if 4 ≤ x4 then k151 I J else f_Model_spot x1 x3 x4 I J (fun r105 I105 J105 => f_Model_spot x2 x3 x4 I105 J105 (fun r116 I116 J116 => vp_in r116 1120 ∧ vp_in r105 1120 ∧ ∀ I120 : MI, I120 = sI I116 189 (upd (I116 189) r105.toNatClampNeg (I116 189 r116.toNatClampNeg)) → f_Model_spot x1 x3 x4 I120 J116 (fun r129 I129 J129 => f_Model_spot x2 x3 x4 I129 J129 (fun r140 I140 J140 => vp_in r140 1120 ∧ vp_in r129 1120 ∧ ∀ I144 : MI, I144 = sI I140 190 (upd (I140 190) r129.toNatClampNeg (I140 190 r140.toNatClampNeg)) → ∀ t145 : Int32, t145 = x4 + 1 → f_Model_become_L91 x1 x2 x3 k151 nf91 t145 I144 J140)))))
def f_Model_become_L38 (x1 : Int32) (x2 : Int32) (k157 : MI → MJ → Prop) : Nat → Int32 → MI → MJ → Prop
  | 0, _, _, _ => False
  | nf38 + 1, x3, I, J =>
  (if 14 ≤ x3 then k157 I J else vp_in ((14 * x2) + x3) 280 ∧ vp_in ((14 * x1) + x3) 280 ∧ ∀ I65 : MI, I65 = sI I 187 (upd (I 187) ((14 * x1) + x3).toNatClampNeg (I 187 ((14 * x2) + x3).toNatClampNeg)) → vp_in ((14 * x2) + x3) 280 ∧ vp_in ((14 * x1) + x3) 280 ∧ ∀ I87 : MI, I87 = sI I65 188 (upd (I65 188) ((14 * x1) + x3).toNatClampNeg (I65 188 ((14 * x2) + x3).toNatClampNeg)) → ∃ n, f_Model_become_L91 x1 x2 x3 (fun (I : MI) (J : MJ) => ∀ t151 : Int32, t151 = x3 + 1 → f_Model_become_L38 x1 x2 k157 nf38 t151 I J) n 0 I87 J)
def f_Model_become (x1 : Int32) (x2 : Int32) (I : MI) (J : MJ) (Q : MI → MJ → Prop) : Prop :=
  vp_in x2 20 ∧ vp_in x1 20 ∧ ∀ I11 : MI, I11 = sI I 184 (upd (I 184) x1.toNatClampNeg (I 184 x2.toNatClampNeg)) → vp_in x2 20 ∧ vp_in x1 20 ∧ ∀ I23 : MI, I23 = sI I11 185 (upd (I11 185) x1.toNatClampNeg (I11 185 x2.toNatClampNeg)) → vp_in x2 20 ∧ vp_in x1 20 ∧ ∀ I35 : MI, I35 = sI I23 186 (upd (I23 186) x1.toNatClampNeg (I23 186 x2.toNatClampNeg)) → ∃ n, f_Model_become_L38 x1 x2 (fun (I : MI) (J : MJ) => Q I J) n 0 I35 J
set_option maxRecDepth 100000 in
set_option maxHeartbeats 4000000 in
theorem w_Model_become_L91 {Γ : Ctx} {Q : MI → MJ → Prop} {x1 : Int32} {x2 : Int32} {x3 : Int32} {k151 : MI → MJ → Prop} (X : Cx Γ cX11_become 5 RX11 1) (Y : Rt Γ (Pv Q) (Option.none : Option Jvm.ClassFile.FieldType))  (hk151 : ∀ (I : MI) (J : MJ), k151 I J → Wp Γ 5 151 [(0, .ref (ad Γ 177)), (1, .int x1), (2, .int x2), (3, .int x3)] [] I J) : ∀ (n : Nat) (x4 : Int32) (I : MI) (J : MJ), f_Model_become_L91 x1 x2 x3 k151 n x4 I J → Wp Γ 5 91 [(0, .ref (ad Γ 177)), (1, .int x1), (2, .int x2), (3, .int x3), (4, .int x4)] [] I J := by
  intro n
  induction n with
  | zero => intro x4 I J h; exact absurd h (by simp [f_Model_become_L91])
  | succ n ih =>
  intro x4 I J h
  unfold f_Model_become_L91 at h
  refine wp_iload X dX11_become_91 4 rfl ?_
  refine wp_iconst X dX11_become_93 ic_4 ?_
  refine wp_icmp_ge (tgt := 151) X dX11_become_94 (by decide) (fun hc => ?_) (fun hc => ?_)
  · have h := ite_t h hc
    refine wp_sub X [0, 1, 2, 3] rfl ?_
    exact hk151 _ _ h
  · have h := ite_f h hc
    refine wp_aload_n X dX11_become_97 0 rfl ?_
    refine gf_X11_45 (o' := 189) X sh_177 rfl dX11_become_98 ?_
    refine wp_iload_n X dX11_become_101 1 rfl ?_
    refine wp_iload_n X dX11_become_102 3 rfl ?_
    refine wp_iload X dX11_become_103 4 rfl ?_
    refine cs_Model_spot X dX11_become_105 ml_X11_149  h (Nat.le_of_ble_eq_true rfl) (by decide) (fun r105 I105 J105 h => ?_)
    refine wp_aload_n X dX11_become_108 0 rfl ?_
    refine gf_X11_45 (o' := 189) X sh_177 rfl dX11_become_109 ?_
    refine wp_iload_n X dX11_become_112 2 rfl ?_
    refine wp_iload_n X dX11_become_113 3 rfl ?_
    refine wp_iload X dX11_become_114 4 rfl ?_
    refine cs_Model_spot X dX11_become_116 ml_X11_149  h (Nat.le_of_ble_eq_true rfl) (by decide) (fun r116 I116 J116 h => ?_)
    obtain ⟨hb119, h⟩ := h
    refine wp_iald X sh_189 hb119 dX11_become_119 ?_
    obtain ⟨hb120, h⟩ := h
    refine wp_iast X sh_189 hb120 dX11_become_120 ?_
    refine wp_memI (fun I120 eI120 => ?_)
    have h := h I120 eI120
    refine wp_aload_n X dX11_become_121 0 rfl ?_
    refine gf_X11_48 (o' := 190) X sh_177 rfl dX11_become_122 ?_
    refine wp_iload_n X dX11_become_125 1 rfl ?_
    refine wp_iload_n X dX11_become_126 3 rfl ?_
    refine wp_iload X dX11_become_127 4 rfl ?_
    refine cs_Model_spot X dX11_become_129 ml_X11_149  h (Nat.le_of_ble_eq_true rfl) (by decide) (fun r129 I129 J129 h => ?_)
    refine wp_aload_n X dX11_become_132 0 rfl ?_
    refine gf_X11_48 (o' := 190) X sh_177 rfl dX11_become_133 ?_
    refine wp_iload_n X dX11_become_136 2 rfl ?_
    refine wp_iload_n X dX11_become_137 3 rfl ?_
    refine wp_iload X dX11_become_138 4 rfl ?_
    refine cs_Model_spot X dX11_become_140 ml_X11_149  h (Nat.le_of_ble_eq_true rfl) (by decide) (fun r140 I140 J140 h => ?_)
    obtain ⟨hb143, h⟩ := h
    refine wp_iald X sh_190 hb143 dX11_become_143 ?_
    obtain ⟨hb144, h⟩ := h
    refine wp_iast X sh_190 hb144 dX11_become_144 ?_
    refine wp_memI (fun I144 eI144 => ?_)
    have h := h I144 eI144
    obtain ⟨t145, et145⟩ : ∃ y : Int32, y = x4 + 1 := ⟨_, rfl⟩
    have h := h t145 et145
    refine wp_iinc (L' := [(4, .int t145), (0, .ref (ad Γ 177)), (1, .int x1), (2, .int x2), (3, .int x3)]) X dX11_become_145 4 rfl (ii_1 et145) (by decide) rfl ?_
    refine wp_goto (tgt := 91) X dX11_become_148 (by decide) ?_
    refine wp_sub X [1, 2, 3, 4, 0] rfl ?_
    exact ih _ _ _ h

set_option maxRecDepth 100000 in
set_option maxHeartbeats 4000000 in
theorem w_Model_become_L38 {Γ : Ctx} {Q : MI → MJ → Prop} {x1 : Int32} {x2 : Int32} {k157 : MI → MJ → Prop} (X : Cx Γ cX11_become 5 RX11 1) (Y : Rt Γ (Pv Q) (Option.none : Option Jvm.ClassFile.FieldType))  (hk157 : ∀ (I : MI) (J : MJ), k157 I J → Wp Γ 5 157 [] [] I J) : ∀ (n : Nat) (x3 : Int32) (I : MI) (J : MJ), f_Model_become_L38 x1 x2 k157 n x3 I J → Wp Γ 5 38 [(0, .ref (ad Γ 177)), (1, .int x1), (2, .int x2), (3, .int x3)] [] I J := by
  intro n
  induction n with
  | zero => intro x3 I J h; exact absurd h (by simp [f_Model_become_L38])
  | succ n ih =>
  intro x3 I J h
  unfold f_Model_become_L38 at h
  refine wp_iload_n X dX11_become_38 3 rfl ?_
  refine wp_bipush X dX11_become_39 bi_14 ?_
  refine wp_icmp_ge (tgt := 157) X dX11_become_41 (by decide) (fun hc => ?_) (fun hc => ?_)
  · have h := ite_t h hc
    refine wp_sub X [] rfl ?_
    exact hk157 _ _ h
  · have h := ite_f h hc
    refine wp_aload_n X dX11_become_44 0 rfl ?_
    refine gf_X11_39 (o' := 187) X sh_177 rfl dX11_become_45 ?_
    refine wp_bipush X dX11_become_48 bi_14 ?_
    refine wp_iload_n X dX11_become_50 1 rfl ?_
    refine wp_imul X dX11_become_51 ?_
    refine wp_iload_n X dX11_become_52 3 rfl ?_
    refine wp_iadd X dX11_become_53 ?_
    refine wp_aload_n X dX11_become_54 0 rfl ?_
    refine gf_X11_39 (o' := 187) X sh_177 rfl dX11_become_55 ?_
    refine wp_bipush X dX11_become_58 bi_14 ?_
    refine wp_iload_n X dX11_become_60 2 rfl ?_
    refine wp_imul X dX11_become_61 ?_
    refine wp_iload_n X dX11_become_62 3 rfl ?_
    refine wp_iadd X dX11_become_63 ?_
    obtain ⟨hb64, h⟩ := h
    refine wp_iald X sh_187 hb64 dX11_become_64 ?_
    obtain ⟨hb65, h⟩ := h
    refine wp_iast X sh_187 hb65 dX11_become_65 ?_
    refine wp_memI (fun I65 eI65 => ?_)
    have h := h I65 eI65
    refine wp_aload_n X dX11_become_66 0 rfl ?_
    refine gf_X11_42 (o' := 188) X sh_177 rfl dX11_become_67 ?_
    refine wp_bipush X dX11_become_70 bi_14 ?_
    refine wp_iload_n X dX11_become_72 1 rfl ?_
    refine wp_imul X dX11_become_73 ?_
    refine wp_iload_n X dX11_become_74 3 rfl ?_
    refine wp_iadd X dX11_become_75 ?_
    refine wp_aload_n X dX11_become_76 0 rfl ?_
    refine gf_X11_42 (o' := 188) X sh_177 rfl dX11_become_77 ?_
    refine wp_bipush X dX11_become_80 bi_14 ?_
    refine wp_iload_n X dX11_become_82 2 rfl ?_
    refine wp_imul X dX11_become_83 ?_
    refine wp_iload_n X dX11_become_84 3 rfl ?_
    refine wp_iadd X dX11_become_85 ?_
    obtain ⟨hb86, h⟩ := h
    refine wp_iald X sh_188 hb86 dX11_become_86 ?_
    obtain ⟨hb87, h⟩ := h
    refine wp_iast X sh_188 hb87 dX11_become_87 ?_
    refine wp_memI (fun I87 eI87 => ?_)
    have h := h I87 eI87
    refine wp_iconst X dX11_become_88 ic_0 ?_
    refine wp_istore (L' := [(4, .int 0), (0, .ref (ad Γ 177)), (1, .int x1), (2, .int x2), (3, .int x3)]) X dX11_become_89 (by decide) rfl ?_
    obtain ⟨n, h⟩ := h
    refine wp_sub X [1, 2, 3, 4, 0] rfl ?_
    refine w_Model_become_L91 X Y  ?_ n _ _ _ h
    · intro I J h
      obtain ⟨t151, et151⟩ : ∃ y : Int32, y = x3 + 1 := ⟨_, rfl⟩
      have h := h t151 et151
      refine wp_iinc (L' := [(3, .int t151), (0, .ref (ad Γ 177)), (1, .int x1), (2, .int x2)]) X dX11_become_151 3 rfl (ii_1 et151) (by decide) rfl ?_
      refine wp_goto (tgt := 38) X dX11_become_154 (by decide) ?_
      refine wp_sub X [1, 2, 3, 0] rfl ?_
      exact ih _ _ _ h

set_option maxRecDepth 100000 in
set_option maxHeartbeats 4000000 in
theorem w_Model_become_b0 {Γ : Ctx} {Q : MI → MJ → Prop} {x1 : Int32} {x2 : Int32}  (X : Cx Γ cX11_become 5 RX11 1) (Y : Rt Γ (Pv Q) (Option.none : Option Jvm.ClassFile.FieldType))   {I : MI} {J : MJ} (h : f_Model_become x1 x2 I J Q) : Wp Γ 5 0 [(0, .ref (ad Γ 177)), (1, .int x1), (2, .int x2)] [] I J := by
  unfold f_Model_become at h
  refine wp_aload_n X dX11_become_0 0 rfl ?_
  refine gf_X11_30 (o' := 184) X sh_177 rfl dX11_become_1 ?_
  refine wp_iload_n X dX11_become_4 1 rfl ?_
  refine wp_aload_n X dX11_become_5 0 rfl ?_
  refine gf_X11_30 (o' := 184) X sh_177 rfl dX11_become_6 ?_
  refine wp_iload_n X dX11_become_9 2 rfl ?_
  obtain ⟨hb10, h⟩ := h
  refine wp_iald X sh_184 hb10 dX11_become_10 ?_
  obtain ⟨hb11, h⟩ := h
  refine wp_iast X sh_184 hb11 dX11_become_11 ?_
  refine wp_memI (fun I11 eI11 => ?_)
  have h := h I11 eI11
  refine wp_aload_n X dX11_become_12 0 rfl ?_
  refine gf_X11_33 (o' := 185) X sh_177 rfl dX11_become_13 ?_
  refine wp_iload_n X dX11_become_16 1 rfl ?_
  refine wp_aload_n X dX11_become_17 0 rfl ?_
  refine gf_X11_33 (o' := 185) X sh_177 rfl dX11_become_18 ?_
  refine wp_iload_n X dX11_become_21 2 rfl ?_
  obtain ⟨hb22, h⟩ := h
  refine wp_iald X sh_185 hb22 dX11_become_22 ?_
  obtain ⟨hb23, h⟩ := h
  refine wp_iast X sh_185 hb23 dX11_become_23 ?_
  refine wp_memI (fun I23 eI23 => ?_)
  have h := h I23 eI23
  refine wp_aload_n X dX11_become_24 0 rfl ?_
  refine gf_X11_36 (o' := 186) X sh_177 rfl dX11_become_25 ?_
  refine wp_iload_n X dX11_become_28 1 rfl ?_
  refine wp_aload_n X dX11_become_29 0 rfl ?_
  refine gf_X11_36 (o' := 186) X sh_177 rfl dX11_become_30 ?_
  refine wp_iload_n X dX11_become_33 2 rfl ?_
  obtain ⟨hb34, h⟩ := h
  refine wp_iald X sh_186 hb34 dX11_become_34 ?_
  obtain ⟨hb35, h⟩ := h
  refine wp_iast X sh_186 hb35 dX11_become_35 ?_
  refine wp_memI (fun I35 eI35 => ?_)
  have h := h I35 eI35
  refine wp_iconst X dX11_become_36 ic_0 ?_
  refine wp_istore_n (L' := [(3, .int 0), (0, .ref (ad Γ 177)), (1, .int x1), (2, .int x2)]) X dX11_become_37 rfl (by decide) rfl ?_
  obtain ⟨n, h⟩ := h
  refine wp_sub X [1, 2, 3, 0] rfl ?_
  refine w_Model_become_L38 X Y  ?_ n _ _ _ h
  · intro I J h
    exact wp_vret X Y dX11_become_157 ⟨rfl, h⟩

theorem c_Model_become {l : Launch} {g : GE} (hg : Inj g) {I : MI} {J : MJ} {Q : MI → MJ → Prop} {x1 : Int32} {x2 : Int32}  (h : f_Model_become x1 x2 I J Q) : Cm l g yX11_become cX11_become 5 (Option.none : Option Jvm.ClassFile.FieldType) 1 [.ref (g.1 177), .int x1, .int x2] I J (Pv Q) := by
  refine Cm.of (As := fun ad => [.ref (ad 177), .int x1, .int x2]) hg pn_X11 (Nat.le_of_ble_eq_true rfl) ?_
  exact (fun Γ _ _ X Y => w_Model_become_b0 X Y  h)
theorem cv_Model_become {Γ : Ctx} {cc : ByteArray} {nL d pc index : Nat} {own : String} {L : List (Nat × Value)} {rest : List Value} {I : MI} {J : MJ} {Q : MI → MJ → Prop} {x1 : Int32} {x2 : Int32} (X : Cx Γ cc nL own d) (hd : decode cc pc = .ok (.invokevirtual index, 3)) (hlink : Cond.methodLink own index yX11_become ∈ TT)  (h : f_Model_become x1 x2 I J Q) (hrest : (rest.map fun v => v.category).sum ≤ 8) (hdd : 1 + 1 ≤ d) (kk : ∀ (I' : MI) (J' : MJ), Q I' J' → Wp Γ nL (pc + 3) L rest I' J') : Wp Γ nL pc L (.int x2 :: .int x1 :: .ref (ad Γ 177) :: rest) I J :=
  wp_callV (As := [.int x1, .int x2]) (rest := rest) (T := TX11) (N := 62) X hd hlink mv_X11_become sh_177 (by decide) rfl (c_Model_become X.inj  h) rfl rfl hrest hdd (fun v I' J' hv => by obtain ⟨rfl, hq⟩ := hv; exact kk I' J' hq)
theorem dX11_put_0 : decode cX11_put 0 = .ok (.aload_n 0, 1) := by decide +kernel
theorem dX11_put_1 : decode cX11_put 1 = .ok (.iload_n 1, 1) := by decide +kernel
theorem dX11_put_2 : decode cX11_put 2 = .ok (.iload_n 2, 1) := by decide +kernel
theorem dX11_put_3 : decode cX11_put 3 = .ok (.invokevirtual 153, 3) := by decide +kernel
theorem dX11_put_6 : decode cX11_put 6 = .ok (.aload_n 0, 1) := by decide +kernel
theorem dX11_put_7 : decode cX11_put 7 = .ok (.getfield 7, 3) := by decide +kernel
theorem dX11_put_10 : decode cX11_put 10 = .ok (.iload_n 1, 1) := by decide +kernel
theorem dX11_put_11 : decode cX11_put 11 = .ok (.aload_n 0, 1) := by decide +kernel
theorem dX11_put_12 : decode cX11_put 12 = .ok (.getfield 30, 3) := by decide +kernel
theorem dX11_put_15 : decode cX11_put 15 = .ok (.iload_n 2, 1) := by decide +kernel
theorem dX11_put_16 : decode cX11_put 16 = .ok (.iaload, 1) := by decide +kernel
theorem dX11_put_17 : decode cX11_put 17 = .ok (.iastore, 1) := by decide +kernel
theorem dX11_put_18 : decode cX11_put 18 = .ok (.aload_n 0, 1) := by decide +kernel
theorem dX11_put_19 : decode cX11_put 19 = .ok (.getfield 20, 3) := by decide +kernel
theorem dX11_put_22 : decode cX11_put 22 = .ok (.iload_n 1, 1) := by decide +kernel
theorem dX11_put_23 : decode cX11_put 23 = .ok (.iconst 0, 1) := by decide +kernel
theorem dX11_put_24 : decode cX11_put 24 = .ok (.iastore, 1) := by decide +kernel
theorem dX11_put_25 : decode cX11_put 25 = .ok (.aload_n 0, 1) := by decide +kernel
theorem dX11_put_26 : decode cX11_put 26 = .ok (.aload_n 0, 1) := by decide +kernel
theorem dX11_put_27 : decode cX11_put 27 = .ok (.getfield 33, 3) := by decide +kernel
theorem dX11_put_30 : decode cX11_put 30 = .ok (.iload_n 2, 1) := by decide +kernel
theorem dX11_put_31 : decode cX11_put 31 = .ok (.iaload, 1) := by decide +kernel
theorem dX11_put_32 : decode cX11_put 32 = .ok (.invokevirtual 157, 3) := by decide +kernel
theorem dX11_put_35 : decode cX11_put 35 = .ok (.ireturn, 1) := by decide +kernel
def f_Model_put (x1 : Int32) (x2 : Int32) (I : MI) (J : MJ) (Q : Int32 → MI → MJ → Prop) : Prop :=
  f_Model_become x1 x2 I J (fun I3 J3 => vp_in x2 20 ∧ vp_in x1 16 ∧ ∀ I17 : MI, I17 = sI I3 178 (upd (I3 178) x1.toNatClampNeg (I3 184 x2.toNatClampNeg)) → vp_in x1 16 ∧ ∀ I24 : MI, I24 = sI I17 181 (upd (I17 181) x1.toNatClampNeg 0) → vp_in x2 20 ∧ f_Model_done (I24 185 x2.toNatClampNeg) I24 J3 (fun r32 I32 J32 => Q r32 I32 J32))
set_option maxRecDepth 100000 in
set_option maxHeartbeats 4000000 in
theorem w_Model_put_b0 {Γ : Ctx} {Q : Int32 → MI → MJ → Prop} {x1 : Int32} {x2 : Int32}  (X : Cx Γ cX11_put 3 RX11 2) (Y : Rt Γ (Pi Q) (Option.some Jvm.ClassFile.FieldType.int))   {I : MI} {J : MJ} (h : f_Model_put x1 x2 I J Q) : Wp Γ 3 0 [(0, .ref (ad Γ 177)), (1, .int x1), (2, .int x2)] [] I J := by
  unfold f_Model_put at h
  refine wp_aload_n X dX11_put_0 0 rfl ?_
  refine wp_iload_n X dX11_put_1 1 rfl ?_
  refine wp_iload_n X dX11_put_2 2 rfl ?_
  refine cv_Model_become X dX11_put_3 ml_X11_153  h (Nat.le_of_ble_eq_true rfl) (by decide) (fun I3 J3 h => ?_)
  refine wp_aload_n X dX11_put_6 0 rfl ?_
  refine gf_X11_7 (o' := 178) X sh_177 rfl dX11_put_7 ?_
  refine wp_iload_n X dX11_put_10 1 rfl ?_
  refine wp_aload_n X dX11_put_11 0 rfl ?_
  refine gf_X11_30 (o' := 184) X sh_177 rfl dX11_put_12 ?_
  refine wp_iload_n X dX11_put_15 2 rfl ?_
  obtain ⟨hb16, h⟩ := h
  refine wp_iald X sh_184 hb16 dX11_put_16 ?_
  obtain ⟨hb17, h⟩ := h
  refine wp_iast X sh_178 hb17 dX11_put_17 ?_
  refine wp_memI (fun I17 eI17 => ?_)
  have h := h I17 eI17
  refine wp_aload_n X dX11_put_18 0 rfl ?_
  refine gf_X11_20 (o' := 181) X sh_177 rfl dX11_put_19 ?_
  refine wp_iload_n X dX11_put_22 1 rfl ?_
  refine wp_iconst X dX11_put_23 ic_0 ?_
  obtain ⟨hb24, h⟩ := h
  refine wp_iast X sh_181 hb24 dX11_put_24 ?_
  refine wp_memI (fun I24 eI24 => ?_)
  have h := h I24 eI24
  refine wp_aload_n X dX11_put_25 0 rfl ?_
  refine wp_aload_n X dX11_put_26 0 rfl ?_
  refine gf_X11_33 (o' := 185) X sh_177 rfl dX11_put_27 ?_
  refine wp_iload_n X dX11_put_30 2 rfl ?_
  obtain ⟨hb31, h⟩ := h
  refine wp_iald X sh_185 hb31 dX11_put_31 ?_
  refine cv_Model_done X dX11_put_32 ml_X11_157  h (Nat.le_of_ble_eq_true rfl) (by decide) (fun r32 I32 J32 h => ?_)
  exact wp_iret X Y dX11_put_35 ⟨_, rfl, h⟩

theorem c_Model_put {l : Launch} {g : GE} (hg : Inj g) {I : MI} {J : MJ} {Q : Int32 → MI → MJ → Prop} {x1 : Int32} {x2 : Int32}  (h : f_Model_put x1 x2 I J Q) : Cm l g yX11_put cX11_put 3 (Option.some Jvm.ClassFile.FieldType.int) 2 [.ref (g.1 177), .int x1, .int x2] I J (Pi Q) := by
  refine Cm.of (As := fun ad => [.ref (ad 177), .int x1, .int x2]) hg pn_X11 (Nat.le_of_ble_eq_true rfl) ?_
  exact (fun Γ _ _ X Y => w_Model_put_b0 X Y  h)
theorem cv_Model_put {Γ : Ctx} {cc : ByteArray} {nL d pc index : Nat} {own : String} {L : List (Nat × Value)} {rest : List Value} {I : MI} {J : MJ} {Q : Int32 → MI → MJ → Prop} {x1 : Int32} {x2 : Int32} (X : Cx Γ cc nL own d) (hd : decode cc pc = .ok (.invokevirtual index, 3)) (hlink : Cond.methodLink own index yX11_put ∈ TT)  (h : f_Model_put x1 x2 I J Q) (hrest : (rest.map fun v => v.category).sum ≤ 8) (hdd : 2 + 1 ≤ d) (kk : ∀ (r : Int32) (I' : MI) (J' : MJ), Q r I' J' → Wp Γ nL (pc + 3) L (.int r :: rest) I' J') : Wp Γ nL pc L (.int x2 :: .int x1 :: .ref (ad Γ 177) :: rest) I J :=
  wp_callV (As := [.int x1, .int x2]) (rest := rest) (T := TX11) (N := 62) X hd hlink mv_X11_put sh_177 (by decide) rfl (c_Model_put X.inj  h) rfl rfl hrest hdd (fun v I' J' hv => by obtain ⟨r, rfl, hq⟩ := hv; exact kk r I' J' hq)
theorem dX11_go_0 : decode cX11_go 0 = .ok (.aload_n 0, 1) := by decide +kernel
theorem dX11_go_1 : decode cX11_go 1 = .ok (.getfield 165, 3) := by decide +kernel
theorem dX11_go_4 : decode cX11_go 4 = .ok (.istore_n 3, 1) := by decide +kernel
theorem dX11_go_5 : decode cX11_go 5 = .ok (.aload_n 0, 1) := by decide +kernel
theorem dX11_go_6 : decode cX11_go 6 = .ok (.iload_n 1, 1) := by decide +kernel
theorem dX11_go_7 : decode cX11_go 7 = .ok (.iload_n 3, 1) := by decide +kernel
theorem dX11_go_8 : decode cX11_go 8 = .ok (.iload_n 2, 1) := by decide +kernel
theorem dX11_go_9 : decode cX11_go 9 = .ok (.invokevirtual 168, 3) := by decide +kernel
theorem dX11_go_12 : decode cX11_go 12 = .ok (.ifCond .eq 17, 3) := by decide +kernel
theorem dX11_go_15 : decode cX11_go 15 = .ok (.aload_n 0, 1) := by decide +kernel
theorem dX11_go_16 : decode cX11_go 16 = .ok (.getfield 45, 3) := by decide +kernel
theorem dX11_go_19 : decode cX11_go 19 = .ok (.iload_n 1, 1) := by decide +kernel
theorem dX11_go_20 : decode cX11_go 20 = .ok (.iload_n 3, 1) := by decide +kernel
theorem dX11_go_21 : decode cX11_go 21 = .ok (.iload_n 2, 1) := by decide +kernel
theorem dX11_go_22 : decode cX11_go 22 = .ok (.invokestatic 149, 3) := by decide +kernel
theorem dX11_go_25 : decode cX11_go 25 = .ok (.iaload, 1) := by decide +kernel
theorem dX11_go_26 : decode cX11_go 26 = .ok (.ifCond .ge 5, 3) := by decide +kernel
theorem dX11_go_29 : decode cX11_go 29 = .ok (.iconst 0, 1) := by decide +kernel
theorem dX11_go_30 : decode cX11_go 30 = .ok (.ireturn, 1) := by decide +kernel
theorem dX11_go_31 : decode cX11_go 31 = .ok (.aload_n 0, 1) := by decide +kernel
theorem dX11_go_32 : decode cX11_go 32 = .ok (.getfield 30, 3) := by decide +kernel
theorem dX11_go_35 : decode cX11_go 35 = .ok (.iload_n 1, 1) := by decide +kernel
theorem dX11_go_36 : decode cX11_go 36 = .ok (.iaload, 1) := by decide +kernel
theorem dX11_go_37 : decode cX11_go 37 = .ok (.iconst 3, 1) := by decide +kernel
theorem dX11_go_38 : decode cX11_go 38 = .ok (.if_icmp .ne 17, 3) := by decide +kernel
theorem dX11_go_41 : decode cX11_go 41 = .ok (.aload_n 0, 1) := by decide +kernel
theorem dX11_go_42 : decode cX11_go 42 = .ok (.getfield 48, 3) := by decide +kernel
theorem dX11_go_45 : decode cX11_go 45 = .ok (.iload_n 1, 1) := by decide +kernel
theorem dX11_go_46 : decode cX11_go 46 = .ok (.iload_n 3, 1) := by decide +kernel
theorem dX11_go_47 : decode cX11_go 47 = .ok (.iload_n 2, 1) := by decide +kernel
theorem dX11_go_48 : decode cX11_go 48 = .ok (.invokestatic 149, 3) := by decide +kernel
theorem dX11_go_51 : decode cX11_go 51 = .ok (.iaload, 1) := by decide +kernel
theorem dX11_go_52 : decode cX11_go 52 = .ok (.goto 4, 3) := by decide +kernel
theorem dX11_go_55 : decode cX11_go 55 = .ok (.iconst 0, 1) := by decide +kernel
theorem dX11_go_56 : decode cX11_go 56 = .ok (.istore 4, 2) := by decide +kernel
theorem dX11_go_58 : decode cX11_go 58 = .ok (.iload 4, 2) := by decide +kernel
theorem dX11_go_60 : decode cX11_go 60 = .ok (.iconst 1, 1) := by decide +kernel
theorem dX11_go_61 : decode cX11_go 61 = .ok (.if_icmp .ne 11, 3) := by decide +kernel
theorem dX11_go_64 : decode cX11_go 64 = .ok (.aload_n 0, 1) := by decide +kernel
theorem dX11_go_65 : decode cX11_go 65 = .ok (.getfield 172, 3) := by decide +kernel
theorem dX11_go_68 : decode cX11_go 68 = .ok (.iconst 3, 1) := by decide +kernel
theorem dX11_go_69 : decode cX11_go 69 = .ok (.if_icmp .eq 29, 3) := by decide +kernel
theorem dX11_go_72 : decode cX11_go 72 = .ok (.iload 4, 2) := by decide +kernel
theorem dX11_go_74 : decode cX11_go 74 = .ok (.iconst 2, 1) := by decide +kernel
theorem dX11_go_75 : decode cX11_go 75 = .ok (.if_icmp .ne 10, 3) := by decide +kernel
theorem dX11_go_78 : decode cX11_go 78 = .ok (.aload_n 0, 1) := by decide +kernel
theorem dX11_go_79 : decode cX11_go 79 = .ok (.getfield 172, 3) := by decide +kernel
theorem dX11_go_82 : decode cX11_go 82 = .ok (.ifCond .eq 16, 3) := by decide +kernel
theorem dX11_go_85 : decode cX11_go 85 = .ok (.iload 4, 2) := by decide +kernel
theorem dX11_go_87 : decode cX11_go 87 = .ok (.iconst 3, 1) := by decide +kernel
theorem dX11_go_88 : decode cX11_go 88 = .ok (.if_icmp .ne 12, 3) := by decide +kernel
theorem dX11_go_91 : decode cX11_go 91 = .ok (.aload_n 0, 1) := by decide +kernel
theorem dX11_go_92 : decode cX11_go 92 = .ok (.getfield 172, 3) := by decide +kernel
theorem dX11_go_95 : decode cX11_go 95 = .ok (.ifCond .eq 5, 3) := by decide +kernel
theorem dX11_go_98 : decode cX11_go 98 = .ok (.iconst 0, 1) := by decide +kernel
theorem dX11_go_99 : decode cX11_go 99 = .ok (.ireturn, 1) := by decide +kernel
theorem dX11_go_100 : decode cX11_go 100 = .ok (.aload_n 0, 1) := by decide +kernel
theorem dX11_go_101 : decode cX11_go 101 = .ok (.iload 4, 2) := by decide +kernel
theorem dX11_go_103 : decode cX11_go 103 = .ok (.iconst 1, 1) := by decide +kernel
theorem dX11_go_104 : decode cX11_go 104 = .ok (.if_icmp .ne 12, 3) := by decide +kernel
theorem dX11_go_107 : decode cX11_go 107 = .ok (.aload_n 0, 1) := by decide +kernel
theorem dX11_go_108 : decode cX11_go 108 = .ok (.getfield 172, 3) := by decide +kernel
theorem dX11_go_111 : decode cX11_go 111 = .ok (.iconst 1, 1) := by decide +kernel
theorem dX11_go_112 : decode cX11_go 112 = .ok (.iadd, 1) := by decide +kernel
theorem dX11_go_113 : decode cX11_go 113 = .ok (.goto 22, 3) := by decide +kernel
theorem dX11_go_116 : decode cX11_go 116 = .ok (.iload 4, 2) := by decide +kernel
theorem dX11_go_118 : decode cX11_go 118 = .ok (.iconst 2, 1) := by decide +kernel
theorem dX11_go_119 : decode cX11_go 119 = .ok (.if_icmp .ne 12, 3) := by decide +kernel
theorem dX11_go_122 : decode cX11_go 122 = .ok (.aload_n 0, 1) := by decide +kernel
theorem dX11_go_123 : decode cX11_go 123 = .ok (.getfield 172, 3) := by decide +kernel
theorem dX11_go_126 : decode cX11_go 126 = .ok (.iconst 1, 1) := by decide +kernel
theorem dX11_go_127 : decode cX11_go 127 = .ok (.isub, 1) := by decide +kernel
theorem dX11_go_128 : decode cX11_go 128 = .ok (.goto 7, 3) := by decide +kernel
theorem dX11_go_131 : decode cX11_go 131 = .ok (.aload_n 0, 1) := by decide +kernel
theorem dX11_go_132 : decode cX11_go 132 = .ok (.getfield 172, 3) := by decide +kernel
theorem dX11_go_135 : decode cX11_go 135 = .ok (.putfield 172, 3) := by decide +kernel
theorem dX11_go_138 : decode cX11_go 138 = .ok (.aload_n 0, 1) := by decide +kernel
theorem dX11_go_139 : decode cX11_go 139 = .ok (.aload_n 0, 1) := by decide +kernel
theorem dX11_go_140 : decode cX11_go 140 = .ok (.getfield 45, 3) := by decide +kernel
theorem dX11_go_143 : decode cX11_go 143 = .ok (.iload_n 1, 1) := by decide +kernel
theorem dX11_go_144 : decode cX11_go 144 = .ok (.iload_n 3, 1) := by decide +kernel
theorem dX11_go_145 : decode cX11_go 145 = .ok (.iload_n 2, 1) := by decide +kernel
theorem dX11_go_146 : decode cX11_go 146 = .ok (.invokestatic 149, 3) := by decide +kernel
theorem dX11_go_149 : decode cX11_go 149 = .ok (.iaload, 1) := by decide +kernel
theorem dX11_go_150 : decode cX11_go 150 = .ok (.putfield 165, 3) := by decide +kernel
theorem dX11_go_153 : decode cX11_go 153 = .ok (.iconst 1, 1) := by decide +kernel
theorem dX11_go_154 : decode cX11_go 154 = .ok (.ireturn, 1) := by decide +kernel
def f_Model_go_b135 (x1 : Int32) (x2 : Int32) (x3 : Int32) (s1 : Int32) (Q : Int32 → MI → MJ → Prop) (I : MI) (J : MJ) : Prop :=
  ∀ I135 : MI, I135 = sI I 177 (upd (I 177) 15 s1) → f_Model_spot x1 x3 x2 I135 J (fun r146 I146 J146 => vp_in r146 1120 ∧ ∀ I150 : MI, I150 = sI I146 177 (upd (I146 177) 14 (I146 189 r146.toNatClampNeg)) → Q 1 I150 J146)
def f_Model_go_b100 (x1 : Int32) (x2 : Int32) (x3 : Int32) (x4 : Int32) (Q : Int32 → MI → MJ → Prop) (I : MI) (J : MJ) : Prop :=
  (if x4 = 1 then f_Model_go_b135 x1 x2 x3 ((I 177 15) + 1) Q I J else (if x4 = 2 then f_Model_go_b135 x1 x2 x3 ((I 177 15) - 1) Q I J else f_Model_go_b135 x1 x2 x3 (I 177 15) Q I J))
def f_Model_go_b85 (x1 : Int32) (x2 : Int32) (x3 : Int32) (x4 : Int32) (Q : Int32 → MI → MJ → Prop) (I : MI) (J : MJ) : Prop :=
  (if x4 = 3 then (if (I 177 15) = 0 then f_Model_go_b100 x1 x2 x3 x4 Q I J else Q 0 I J) else f_Model_go_b100 x1 x2 x3 x4 Q I J)
def f_Model_go_b72 (x1 : Int32) (x2 : Int32) (x3 : Int32) (x4 : Int32) (Q : Int32 → MI → MJ → Prop) (I : MI) (J : MJ) : Prop :=
  (if x4 = 2 then (if (I 177 15) = 0 then Q 0 I J else f_Model_go_b85 x1 x2 x3 x4 Q I J) else f_Model_go_b85 x1 x2 x3 x4 Q I J)
def f_Model_go_b56 (x1 : Int32) (x2 : Int32) (x3 : Int32) (s0 : Int32) (Q : Int32 → MI → MJ → Prop) (I : MI) (J : MJ) : Prop :=
  (if s0 = 1 then (if (I 177 15) = 3 then Q 0 I J else f_Model_go_b72 x1 x2 x3 s0 Q I J) else f_Model_go_b72 x1 x2 x3 s0 Q I J)
def f_Model_go (x1 : Int32) (x2 : Int32) (I : MI) (J : MJ) (Q : Int32 → MI → MJ → Prop) : Prop :=
  ∀ t4 : Int32, t4 = I 177 14 → f_Model_hasTake x1 t4 x2 I J (fun r9 I9 J9 => (if r9 = 0 then Q 0 I9 J9 else f_Model_spot x1 t4 x2 I9 J9 (fun r22 I22 J22 => vp_in r22 1120 ∧ (if 0 ≤ (I22 189 r22.toNatClampNeg) then vp_in x1 20 ∧ (if (I22 184 x1.toNatClampNeg) = 3 then f_Model_spot x1 t4 x2 I22 J22 (fun r48 I48 J48 => vp_in r48 1120 ∧ f_Model_go_b56 x1 x2 t4 (I48 190 r48.toNatClampNeg) Q I48 J48) else f_Model_go_b56 x1 x2 t4 0 Q I22 J22) else Q 0 I22 J22))))
set_option maxRecDepth 100000 in
set_option maxHeartbeats 4000000 in
theorem w_Model_go_b135 {Γ : Ctx} {Q : Int32 → MI → MJ → Prop} {x1 : Int32} {x2 : Int32} {x3 : Int32} {s1 : Int32}  (X : Cx Γ cX11_go 5 RX11 1) (Y : Rt Γ (Pi Q) (Option.some Jvm.ClassFile.FieldType.boolean))   {I : MI} {J : MJ} (h : f_Model_go_b135 x1 x2 x3 s1 Q I J) : Wp Γ 5 135 [(0, .ref (ad Γ 177)), (1, .int x1), (2, .int x2), (3, .int x3)] [.int s1, .ref (ad Γ 177)] I J := by
  unfold f_Model_go_b135 at h
  refine pf_X11_172 X sh_177 dX11_go_135 (fun I135 eI135 => ?_)
  have h := h I135 eI135
  refine wp_aload_n X dX11_go_138 0 rfl ?_
  refine wp_aload_n X dX11_go_139 0 rfl ?_
  refine gf_X11_45 (o' := 189) X sh_177 rfl dX11_go_140 ?_
  refine wp_iload_n X dX11_go_143 1 rfl ?_
  refine wp_iload_n X dX11_go_144 3 rfl ?_
  refine wp_iload_n X dX11_go_145 2 rfl ?_
  refine cs_Model_spot X dX11_go_146 ml_X11_149  h (Nat.le_of_ble_eq_true rfl) (by decide) (fun r146 I146 J146 h => ?_)
  obtain ⟨hb149, h⟩ := h
  refine wp_iald X sh_189 hb149 dX11_go_149 ?_
  refine pf_X11_165 X sh_177 dX11_go_150 (fun I150 eI150 => ?_)
  have h := h I150 eI150
  refine wp_iconst X dX11_go_153 ic_1 ?_
  exact wp_zret X Y dX11_go_154 (by decide) ⟨_, rfl, h⟩

set_option maxRecDepth 100000 in
set_option maxHeartbeats 4000000 in
theorem w_Model_go_b100 {Γ : Ctx} {Q : Int32 → MI → MJ → Prop} {x1 : Int32} {x2 : Int32} {x3 : Int32} {x4 : Int32}  (X : Cx Γ cX11_go 5 RX11 1) (Y : Rt Γ (Pi Q) (Option.some Jvm.ClassFile.FieldType.boolean))   {I : MI} {J : MJ} (h : f_Model_go_b100 x1 x2 x3 x4 Q I J) : Wp Γ 5 100 [(0, .ref (ad Γ 177)), (1, .int x1), (2, .int x2), (3, .int x3), (4, .int x4)] [] I J := by
  unfold f_Model_go_b100 at h
  refine wp_aload_n X dX11_go_100 0 rfl ?_
  refine wp_iload X dX11_go_101 4 rfl ?_
  refine wp_iconst X dX11_go_103 ic_1 ?_
  refine wp_icmp_ne (tgt := 116) X dX11_go_104 (by decide) (fun hc => ?_) (fun hc => ?_)
  · have h := ite_f h hc
    refine wp_iload X dX11_go_116 4 rfl ?_
    refine wp_iconst X dX11_go_118 ic_2 ?_
    refine wp_icmp_ne (tgt := 131) X dX11_go_119 (by decide) (fun hc => ?_) (fun hc => ?_)
    · have h := ite_f h hc
      refine wp_aload_n X dX11_go_131 0 rfl ?_
      refine gf_X11_172 X sh_177 dX11_go_132 ?_
      refine wp_sub X [0, 1, 2, 3] rfl ?_
      exact w_Model_go_b135 X Y  h
    · have h := ite_t h hc
      refine wp_aload_n X dX11_go_122 0 rfl ?_
      refine gf_X11_172 X sh_177 dX11_go_123 ?_
      refine wp_iconst X dX11_go_126 ic_1 ?_
      refine wp_isub X dX11_go_127 ?_
      refine wp_goto (tgt := 135) X dX11_go_128 (by decide) ?_
      refine wp_sub X [0, 1, 2, 3] rfl ?_
      exact w_Model_go_b135 X Y  h
  · have h := ite_t h hc
    refine wp_aload_n X dX11_go_107 0 rfl ?_
    refine gf_X11_172 X sh_177 dX11_go_108 ?_
    refine wp_iconst X dX11_go_111 ic_1 ?_
    refine wp_iadd X dX11_go_112 ?_
    refine wp_goto (tgt := 135) X dX11_go_113 (by decide) ?_
    refine wp_sub X [0, 1, 2, 3] rfl ?_
    exact w_Model_go_b135 X Y  h

set_option maxRecDepth 100000 in
set_option maxHeartbeats 4000000 in
theorem w_Model_go_b85 {Γ : Ctx} {Q : Int32 → MI → MJ → Prop} {x1 : Int32} {x2 : Int32} {x3 : Int32} {x4 : Int32}  (X : Cx Γ cX11_go 5 RX11 1) (Y : Rt Γ (Pi Q) (Option.some Jvm.ClassFile.FieldType.boolean))   {I : MI} {J : MJ} (h : f_Model_go_b85 x1 x2 x3 x4 Q I J) : Wp Γ 5 85 [(0, .ref (ad Γ 177)), (1, .int x1), (2, .int x2), (3, .int x3), (4, .int x4)] [] I J := by
  unfold f_Model_go_b85 at h
  refine wp_iload X dX11_go_85 4 rfl ?_
  refine wp_iconst X dX11_go_87 ic_3 ?_
  refine wp_icmp_ne (tgt := 100) X dX11_go_88 (by decide) (fun hc => ?_) (fun hc => ?_)
  · have h := ite_f h hc
    exact w_Model_go_b100 X Y  h
  · have h := ite_t h hc
    refine wp_aload_n X dX11_go_91 0 rfl ?_
    refine gf_X11_172 X sh_177 dX11_go_92 ?_
    refine wp_if_eq (tgt := 100) X dX11_go_95 (by decide) (fun hc => ?_) (fun hc => ?_)
    · have h := ite_t h hc
      exact w_Model_go_b100 X Y  h
    · have h := ite_f h hc
      refine wp_iconst X dX11_go_98 ic_0 ?_
      exact wp_zret X Y dX11_go_99 (by decide) ⟨_, rfl, h⟩

set_option maxRecDepth 100000 in
set_option maxHeartbeats 4000000 in
theorem w_Model_go_b72 {Γ : Ctx} {Q : Int32 → MI → MJ → Prop} {x1 : Int32} {x2 : Int32} {x3 : Int32} {x4 : Int32}  (X : Cx Γ cX11_go 5 RX11 1) (Y : Rt Γ (Pi Q) (Option.some Jvm.ClassFile.FieldType.boolean))   {I : MI} {J : MJ} (h : f_Model_go_b72 x1 x2 x3 x4 Q I J) : Wp Γ 5 72 [(0, .ref (ad Γ 177)), (1, .int x1), (2, .int x2), (3, .int x3), (4, .int x4)] [] I J := by
  unfold f_Model_go_b72 at h
  refine wp_iload X dX11_go_72 4 rfl ?_
  refine wp_iconst X dX11_go_74 ic_2 ?_
  refine wp_icmp_ne (tgt := 85) X dX11_go_75 (by decide) (fun hc => ?_) (fun hc => ?_)
  · have h := ite_f h hc
    exact w_Model_go_b85 X Y  h
  · have h := ite_t h hc
    refine wp_aload_n X dX11_go_78 0 rfl ?_
    refine gf_X11_172 X sh_177 dX11_go_79 ?_
    refine wp_if_eq (tgt := 98) X dX11_go_82 (by decide) (fun hc => ?_) (fun hc => ?_)
    · have h := ite_t h hc
      refine wp_iconst X dX11_go_98 ic_0 ?_
      exact wp_zret X Y dX11_go_99 (by decide) ⟨_, rfl, h⟩
    · have h := ite_f h hc
      exact w_Model_go_b85 X Y  h

set_option maxRecDepth 100000 in
set_option maxHeartbeats 4000000 in
theorem w_Model_go_b56 {Γ : Ctx} {Q : Int32 → MI → MJ → Prop} {x1 : Int32} {x2 : Int32} {x3 : Int32} {s0 : Int32}  (X : Cx Γ cX11_go 5 RX11 1) (Y : Rt Γ (Pi Q) (Option.some Jvm.ClassFile.FieldType.boolean))   {I : MI} {J : MJ} (h : f_Model_go_b56 x1 x2 x3 s0 Q I J) : Wp Γ 5 56 [(0, .ref (ad Γ 177)), (1, .int x1), (2, .int x2), (3, .int x3)] [.int s0] I J := by
  unfold f_Model_go_b56 at h
  refine wp_istore (L' := [(4, .int s0), (0, .ref (ad Γ 177)), (1, .int x1), (2, .int x2), (3, .int x3)]) X dX11_go_56 (by decide) rfl ?_
  refine wp_iload X dX11_go_58 0 rfl ?_
  refine wp_iconst X dX11_go_60 ic_1 ?_
  refine wp_icmp_ne (tgt := 72) X dX11_go_61 (by decide) (fun hc => ?_) (fun hc => ?_)
  · have h := ite_f h hc
    refine wp_sub X [1, 2, 3, 4, 0] rfl ?_
    exact w_Model_go_b72 X Y  h
  · have h := ite_t h hc
    refine wp_aload_n X dX11_go_64 1 rfl ?_
    refine gf_X11_172 X sh_177 dX11_go_65 ?_
    refine wp_iconst X dX11_go_68 ic_3 ?_
    refine wp_icmp_eq (tgt := 98) X dX11_go_69 (by decide) (fun hc => ?_) (fun hc => ?_)
    · have h := ite_t h hc
      refine wp_iconst X dX11_go_98 ic_0 ?_
      exact wp_zret X Y dX11_go_99 (by decide) ⟨_, rfl, h⟩
    · have h := ite_f h hc
      refine wp_sub X [1, 2, 3, 4, 0] rfl ?_
      exact w_Model_go_b72 X Y  h

set_option maxRecDepth 100000 in
set_option maxHeartbeats 4000000 in
theorem w_Model_go_b0 {Γ : Ctx} {Q : Int32 → MI → MJ → Prop} {x1 : Int32} {x2 : Int32}  (X : Cx Γ cX11_go 5 RX11 1) (Y : Rt Γ (Pi Q) (Option.some Jvm.ClassFile.FieldType.boolean))   {I : MI} {J : MJ} (h : f_Model_go x1 x2 I J Q) : Wp Γ 5 0 [(0, .ref (ad Γ 177)), (1, .int x1), (2, .int x2)] [] I J := by
  unfold f_Model_go at h
  refine wp_aload_n X dX11_go_0 0 rfl ?_
  refine gf_X11_165 X sh_177 dX11_go_1 ?_
  refine wp_topi (fun t4 et4 => ?_)
  have h := h t4 et4
  refine wp_istore_n (L' := [(3, .int t4), (0, .ref (ad Γ 177)), (1, .int x1), (2, .int x2)]) X dX11_go_4 rfl (by decide) rfl ?_
  refine wp_aload_n X dX11_go_5 1 rfl ?_
  refine wp_iload_n X dX11_go_6 2 rfl ?_
  refine wp_iload_n X dX11_go_7 0 rfl ?_
  refine wp_iload_n X dX11_go_8 3 rfl ?_
  refine cv_Model_hasTake X dX11_go_9 ml_X11_168  h (Nat.le_of_ble_eq_true rfl) (by decide) (fun r9 I9 J9 h => ?_)
  refine wp_if_eq (tgt := 29) X dX11_go_12 (by decide) (fun hc => ?_) (fun hc => ?_)
  · have h := ite_t h hc
    refine wp_iconst X dX11_go_29 ic_0 ?_
    exact wp_zret X Y dX11_go_30 (by decide) ⟨_, rfl, h⟩
  · have h := ite_f h hc
    refine wp_aload_n X dX11_go_15 1 rfl ?_
    refine gf_X11_45 (o' := 189) X sh_177 rfl dX11_go_16 ?_
    refine wp_iload_n X dX11_go_19 2 rfl ?_
    refine wp_iload_n X dX11_go_20 0 rfl ?_
    refine wp_iload_n X dX11_go_21 3 rfl ?_
    refine cs_Model_spot X dX11_go_22 ml_X11_149  h (Nat.le_of_ble_eq_true rfl) (by decide) (fun r22 I22 J22 h => ?_)
    obtain ⟨hb25, h⟩ := h
    refine wp_iald X sh_189 hb25 dX11_go_25 ?_
    refine wp_if_ge (tgt := 31) X dX11_go_26 (by decide) (fun hc => ?_) (fun hc => ?_)
    · have h := ite_t h hc
      refine wp_aload_n X dX11_go_31 1 rfl ?_
      refine gf_X11_30 (o' := 184) X sh_177 rfl dX11_go_32 ?_
      refine wp_iload_n X dX11_go_35 2 rfl ?_
      obtain ⟨hb36, h⟩ := h
      refine wp_iald X sh_184 hb36 dX11_go_36 ?_
      refine wp_iconst X dX11_go_37 ic_3 ?_
      refine wp_icmp_ne (tgt := 55) X dX11_go_38 (by decide) (fun hc => ?_) (fun hc => ?_)
      · have h := ite_f h hc
        refine wp_iconst X dX11_go_55 ic_0 ?_
        refine wp_sub X [1, 2, 3, 0] rfl ?_
        exact w_Model_go_b56 X Y  h
      · have h := ite_t h hc
        refine wp_aload_n X dX11_go_41 1 rfl ?_
        refine gf_X11_48 (o' := 190) X sh_177 rfl dX11_go_42 ?_
        refine wp_iload_n X dX11_go_45 2 rfl ?_
        refine wp_iload_n X dX11_go_46 0 rfl ?_
        refine wp_iload_n X dX11_go_47 3 rfl ?_
        refine cs_Model_spot X dX11_go_48 ml_X11_149  h (Nat.le_of_ble_eq_true rfl) (by decide) (fun r48 I48 J48 h => ?_)
        obtain ⟨hb51, h⟩ := h
        refine wp_iald X sh_190 hb51 dX11_go_51 ?_
        refine wp_goto (tgt := 56) X dX11_go_52 (by decide) ?_
        refine wp_sub X [1, 2, 3, 0] rfl ?_
        exact w_Model_go_b56 X Y  h
    · have h := ite_f h hc
      refine wp_iconst X dX11_go_29 ic_0 ?_
      exact wp_zret X Y dX11_go_30 (by decide) ⟨_, rfl, h⟩

theorem c_Model_go {l : Launch} {g : GE} (hg : Inj g) {I : MI} {J : MJ} {Q : Int32 → MI → MJ → Prop} {x1 : Int32} {x2 : Int32}  (h : f_Model_go x1 x2 I J Q) : Cm l g yX11_go cX11_go 5 (Option.some Jvm.ClassFile.FieldType.boolean) 1 [.ref (g.1 177), .int x1, .int x2] I J (Pi Q) := by
  refine Cm.of (As := fun ad => [.ref (ad 177), .int x1, .int x2]) hg pn_X11 (Nat.le_of_ble_eq_true rfl) ?_
  exact (fun Γ _ _ X Y => w_Model_go_b0 X Y  h)
theorem cv_Model_go {Γ : Ctx} {cc : ByteArray} {nL d pc index : Nat} {own : String} {L : List (Nat × Value)} {rest : List Value} {I : MI} {J : MJ} {Q : Int32 → MI → MJ → Prop} {x1 : Int32} {x2 : Int32} (X : Cx Γ cc nL own d) (hd : decode cc pc = .ok (.invokevirtual index, 3)) (hlink : Cond.methodLink own index yX11_go ∈ TT)  (h : f_Model_go x1 x2 I J Q) (hrest : (rest.map fun v => v.category).sum ≤ 8) (hdd : 1 + 1 ≤ d) (kk : ∀ (r : Int32) (I' : MI) (J' : MJ), Q r I' J' → Wp Γ nL (pc + 3) L (.int r :: rest) I' J') : Wp Γ nL pc L (.int x2 :: .int x1 :: .ref (ad Γ 177) :: rest) I J :=
  wp_callV (As := [.int x1, .int x2]) (rest := rest) (T := TX11) (N := 62) X hd hlink mv_X11_go sh_177 (by decide) rfl (c_Model_go X.inj  h) rfl rfl hrest hdd (fun v I' J' hv => by obtain ⟨r, rfl, hq⟩ := hv; exact kk r I' J' hq)
theorem dX11_lengthOf_0 : decode cX11_lengthOf 0 = .ok (.iconst (-1), 1) := by decide +kernel
theorem dX11_lengthOf_1 : decode cX11_lengthOf 1 = .ok (.istore_n 2, 1) := by decide +kernel
theorem dX11_lengthOf_2 : decode cX11_lengthOf 2 = .ok (.iconst 0, 1) := by decide +kernel
theorem dX11_lengthOf_3 : decode cX11_lengthOf 3 = .ok (.istore_n 3, 1) := by decide +kernel
theorem dX11_lengthOf_4 : decode cX11_lengthOf 4 = .ok (.iload_n 3, 1) := by decide +kernel
theorem dX11_lengthOf_5 : decode cX11_lengthOf 5 = .ok (.bipush 30, 2) := by decide +kernel
theorem dX11_lengthOf_7 : decode cX11_lengthOf 7 = .ok (.if_icmp .gt 31, 3) := by decide +kernel
theorem dX11_lengthOf_10 : decode cX11_lengthOf 10 = .ok (.lload_n 0, 1) := by decide +kernel
theorem dX11_lengthOf_11 : decode cX11_lengthOf 11 = .ok (.lconst 0, 1) := by decide +kernel
theorem dX11_lengthOf_12 : decode cX11_lengthOf 12 = .ok (.lcmp, 1) := by decide +kernel
theorem dX11_lengthOf_13 : decode cX11_lengthOf 13 = .ok (.ifCond .le 17, 3) := by decide +kernel
theorem dX11_lengthOf_16 : decode cX11_lengthOf 16 = .ok (.lload_n 0, 1) := by decide +kernel
theorem dX11_lengthOf_17 : decode cX11_lengthOf 17 = .ok (.iconst 2, 1) := by decide +kernel
theorem dX11_lengthOf_18 : decode cX11_lengthOf 18 = .ok (.iload_n 3, 1) := by decide +kernel
theorem dX11_lengthOf_19 : decode cX11_lengthOf 19 = .ok (.imul, 1) := by decide +kernel
theorem dX11_lengthOf_20 : decode cX11_lengthOf 20 = .ok (.lshr, 1) := by decide +kernel
theorem dX11_lengthOf_21 : decode cX11_lengthOf 21 = .ok (.lconst 1, 1) := by decide +kernel
theorem dX11_lengthOf_22 : decode cX11_lengthOf 22 = .ok (.lcmp, 1) := by decide +kernel
theorem dX11_lengthOf_23 : decode cX11_lengthOf 23 = .ok (.ifCond .ne 7, 3) := by decide +kernel
theorem dX11_lengthOf_26 : decode cX11_lengthOf 26 = .ok (.iload_n 3, 1) := by decide +kernel
theorem dX11_lengthOf_27 : decode cX11_lengthOf 27 = .ok (.goto 4, 3) := by decide +kernel
theorem dX11_lengthOf_30 : decode cX11_lengthOf 30 = .ok (.iload_n 2, 1) := by decide +kernel
theorem dX11_lengthOf_31 : decode cX11_lengthOf 31 = .ok (.istore_n 2, 1) := by decide +kernel
theorem dX11_lengthOf_32 : decode cX11_lengthOf 32 = .ok (.iinc 3 1, 3) := by decide +kernel
theorem dX11_lengthOf_35 : decode cX11_lengthOf 35 = .ok (.goto (-31), 3) := by decide +kernel
theorem dX11_lengthOf_38 : decode cX11_lengthOf 38 = .ok (.iload_n 2, 1) := by decide +kernel
theorem dX11_lengthOf_39 : decode cX11_lengthOf 39 = .ok (.ireturn, 1) := by decide +kernel
def f_Model_lengthOf_b31 (x3 : Int32) (s0 : Int32) (kh : Int32 → Int32 → MI → MJ → Prop) (I : MI) (J : MJ) : Prop :=
  ∀ t32 : Int32, t32 = x3 + 1 → kh s0 t32 I J
def f_Model_lengthOf_b30 (x2 : Int32) (x3 : Int32) (kh : Int32 → Int32 → MI → MJ → Prop) (I : MI) (J : MJ) : Prop :=
  f_Model_lengthOf_b31 x3 x2 kh I J
def f_Model_lengthOf_L4 (x0 : Int64) (k38 : Int32 → MI → MJ → Prop) : Nat → Int32 → Int32 → MI → MJ → Prop
  | 0, _, _, _, _ => False
  | nf4 + 1, x2, x3, I, J =>
  (if 30 < x3 then k38 x2 I J else (if x0 ≤ 0 then f_Model_lengthOf_b30 x2 x3 (f_Model_lengthOf_L4 x0 k38 nf4) I J else (if (x0 >>> ((2 * x3).toInt64 &&& 63)) = 1 then f_Model_lengthOf_b31 x3 x3 (f_Model_lengthOf_L4 x0 k38 nf4) I J else f_Model_lengthOf_b30 x2 x3 (f_Model_lengthOf_L4 x0 k38 nf4) I J)))
def f_Model_lengthOf (x0 : Int64) (I : MI) (J : MJ) (Q : Int32 → MI → MJ → Prop) : Prop :=
  ∃ n, f_Model_lengthOf_L4 x0 (fun (z38_x2 : Int32) (I : MI) (J : MJ) => Q z38_x2 I J) n (-1) 0 I J
set_option maxRecDepth 100000 in
set_option maxHeartbeats 4000000 in
theorem w_Model_lengthOf_b31 {Γ : Ctx} {Q : Int32 → MI → MJ → Prop} {x0 : Int64} {x3 : Int32} {s0 : Int32} {kh : Int32 → Int32 → MI → MJ → Prop} (X : Cx Γ cX11_lengthOf 4 RX11 0) (Y : Rt Γ (Pi Q) (Option.some Jvm.ClassFile.FieldType.int))  (hkh : ∀ (x2 : Int32) (x3 : Int32) (I : MI) (J : MJ), kh x2 x3 I J → Wp Γ 4 4 [(0, .long x0), (2, .int x2), (3, .int x3)] [] I J) {I : MI} {J : MJ} (h : f_Model_lengthOf_b31 x3 s0 kh I J) : Wp Γ 4 31 [(0, .long x0), (3, .int x3)] [.int s0] I J := by
  unfold f_Model_lengthOf_b31 at h
  refine wp_istore_n (L' := [(2, .int s0), (0, .long x0), (3, .int x3)]) X dX11_lengthOf_31 rfl (by decide) rfl ?_
  obtain ⟨t32, et32⟩ : ∃ y : Int32, y = x3 + 1 := ⟨_, rfl⟩
  have h := h t32 et32
  refine wp_iinc (L' := [(3, .int t32), (2, .int s0), (0, .long x0)]) X dX11_lengthOf_32 2 rfl (ii_1 et32) (by decide) rfl ?_
  refine wp_goto (tgt := 4) X dX11_lengthOf_35 (by decide) ?_
  refine wp_sub X [2, 1, 0] rfl ?_
  exact hkh _ _ _ _ h

set_option maxRecDepth 100000 in
set_option maxHeartbeats 4000000 in
theorem w_Model_lengthOf_b30 {Γ : Ctx} {Q : Int32 → MI → MJ → Prop} {x0 : Int64} {x2 : Int32} {x3 : Int32} {kh : Int32 → Int32 → MI → MJ → Prop} (X : Cx Γ cX11_lengthOf 4 RX11 0) (Y : Rt Γ (Pi Q) (Option.some Jvm.ClassFile.FieldType.int))  (hkh : ∀ (x2 : Int32) (x3 : Int32) (I : MI) (J : MJ), kh x2 x3 I J → Wp Γ 4 4 [(0, .long x0), (2, .int x2), (3, .int x3)] [] I J) {I : MI} {J : MJ} (h : f_Model_lengthOf_b30 x2 x3 kh I J) : Wp Γ 4 30 [(0, .long x0), (2, .int x2), (3, .int x3)] [] I J := by
  unfold f_Model_lengthOf_b30 at h
  refine wp_iload_n X dX11_lengthOf_30 1 rfl ?_
  refine wp_sub X [0, 2] rfl ?_
  exact w_Model_lengthOf_b31 X Y hkh h

set_option maxRecDepth 100000 in
set_option maxHeartbeats 4000000 in
theorem w_Model_lengthOf_L4 {Γ : Ctx} {Q : Int32 → MI → MJ → Prop} {x0 : Int64} {k38 : Int32 → MI → MJ → Prop} (X : Cx Γ cX11_lengthOf 4 RX11 0) (Y : Rt Γ (Pi Q) (Option.some Jvm.ClassFile.FieldType.int))  (hk38 : ∀ (x2 : Int32) (I : MI) (J : MJ), k38 x2 I J → Wp Γ 4 38 [(2, .int x2)] [] I J) : ∀ (n : Nat) (x2 : Int32) (x3 : Int32) (I : MI) (J : MJ), f_Model_lengthOf_L4 x0 k38 n x2 x3 I J → Wp Γ 4 4 [(0, .long x0), (2, .int x2), (3, .int x3)] [] I J := by
  intro n
  induction n with
  | zero => intro x2 x3 I J h; exact absurd h (by simp [f_Model_lengthOf_L4])
  | succ n ih =>
  intro x2 x3 I J h
  unfold f_Model_lengthOf_L4 at h
  refine wp_iload_n X dX11_lengthOf_4 2 rfl ?_
  refine wp_bipush X dX11_lengthOf_5 bi_30 ?_
  refine wp_icmp_gt (tgt := 38) X dX11_lengthOf_7 (by decide) (fun hc => ?_) (fun hc => ?_)
  · have h := ite_t h hc
    refine wp_sub X [1] rfl ?_
    exact hk38 _ _ _ h
  · have h := ite_f h hc
    refine wp_lload_n X dX11_lengthOf_10 0 rfl ?_
    refine wp_lconst X dX11_lengthOf_11 lc_0 ?_
    refine wp_lcmp_le (tgt := 30) X dX11_lengthOf_12 dX11_lengthOf_13 (by decide) (fun hc => ?_) (fun hc => ?_)
    · have h := ite_t h hc
      exact w_Model_lengthOf_b30 X Y ih h
    · have h := ite_f h hc
      refine wp_lload_n X dX11_lengthOf_16 0 rfl ?_
      refine wp_iconst X dX11_lengthOf_17 ic_2 ?_
      refine wp_iload_n X dX11_lengthOf_18 2 rfl ?_
      refine wp_imul X dX11_lengthOf_19 ?_
      refine wp_lshr X dX11_lengthOf_20 ?_
      refine wp_lconst X dX11_lengthOf_21 lc_1 ?_
      refine wp_lcmp_ne (tgt := 30) X dX11_lengthOf_22 dX11_lengthOf_23 (by decide) (fun hc => ?_) (fun hc => ?_)
      · have h := ite_f h hc
        exact w_Model_lengthOf_b30 X Y ih h
      · have h := ite_t h hc
        refine wp_iload_n X dX11_lengthOf_26 2 rfl ?_
        refine wp_goto (tgt := 31) X dX11_lengthOf_27 (by decide) ?_
        refine wp_sub X [0, 2] rfl ?_
        exact w_Model_lengthOf_b31 X Y ih h

set_option maxRecDepth 100000 in
set_option maxHeartbeats 4000000 in
theorem w_Model_lengthOf_b0 {Γ : Ctx} {Q : Int32 → MI → MJ → Prop} {x0 : Int64}  (X : Cx Γ cX11_lengthOf 4 RX11 0) (Y : Rt Γ (Pi Q) (Option.some Jvm.ClassFile.FieldType.int))   {I : MI} {J : MJ} (h : f_Model_lengthOf x0 I J Q) : Wp Γ 4 0 [(0, .long x0)] [] I J := by
  unfold f_Model_lengthOf at h
  refine wp_iconst X dX11_lengthOf_0 ic_m1 ?_
  refine wp_istore_n (L' := [(2, .int (-1)), (0, .long x0)]) X dX11_lengthOf_1 rfl (by decide) rfl ?_
  refine wp_iconst X dX11_lengthOf_2 ic_0 ?_
  refine wp_istore_n (L' := [(3, .int 0), (2, .int (-1)), (0, .long x0)]) X dX11_lengthOf_3 rfl (by decide) rfl ?_
  obtain ⟨n, h⟩ := h
  refine wp_sub X [2, 1, 0] rfl ?_
  refine w_Model_lengthOf_L4 X Y  ?_ n _ _ _ _ h
  · intro z38_x2 I J h
    refine wp_iload_n X dX11_lengthOf_38 0 rfl ?_
    exact wp_iret X Y dX11_lengthOf_39 ⟨_, rfl, h⟩

theorem c_Model_lengthOf {l : Launch} {g : GE} (hg : Inj g) {I : MI} {J : MJ} {Q : Int32 → MI → MJ → Prop} {x0 : Int64}  (h : f_Model_lengthOf x0 I J Q) : Cm l g yX11_lengthOf cX11_lengthOf 4 (Option.some Jvm.ClassFile.FieldType.int) 0 [.long x0] I J (Pi Q) := by
  refine Cm.of (As := fun ad => [.long x0]) hg pn_X11 (Nat.le_of_ble_eq_true rfl) ?_
  exact (fun Γ _ _ X Y => w_Model_lengthOf_b0 X Y  h)
theorem cs_Model_lengthOf {Γ : Ctx} {cc : ByteArray} {nL d pc index : Nat} {own : String} {L : List (Nat × Value)} {rest : List Value} {I : MI} {J : MJ} {Q : Int32 → MI → MJ → Prop} {x0 : Int64} (X : Cx Γ cc nL own d) (hd : decode cc pc = .ok (.invokestatic index, 3)) (hlink : Cond.methodLink own index yX11_lengthOf ∈ TT)  (h : f_Model_lengthOf x0 I J Q) (hrest : (rest.map fun v => v.category).sum ≤ 8) (hdd : 0 + 1 ≤ d) (kk : ∀ (r : Int32) (I' : MI) (J' : MJ), Q r I' J' → Wp Γ nL (pc + 3) L (.int r :: rest) I' J') : Wp Γ nL pc L (.long x0 :: rest) I J :=
  wp_callS (As := [.long x0]) (rest := rest) X hd hlink mv_X11_lengthOf (c_Model_lengthOf X.inj  h) rfl rfl hrest hdd (fun v I' J' hv => by obtain ⟨r, rfl, hq⟩ := hv; exact kk r I' J' hq)
theorem dX11_signOf_0 : decode cX11_signOf 0 = .ok (.lload_n 0, 1) := by decide +kernel
theorem dX11_signOf_1 : decode cX11_signOf 1 = .ok (.iconst 2, 1) := by decide +kernel
theorem dX11_signOf_2 : decode cX11_signOf 2 = .ok (.iload_n 2, 1) := by decide +kernel
theorem dX11_signOf_3 : decode cX11_signOf 3 = .ok (.iconst 1, 1) := by decide +kernel
theorem dX11_signOf_4 : decode cX11_signOf 4 = .ok (.isub, 1) := by decide +kernel
theorem dX11_signOf_5 : decode cX11_signOf 5 = .ok (.iload_n 3, 1) := by decide +kernel
theorem dX11_signOf_6 : decode cX11_signOf 6 = .ok (.isub, 1) := by decide +kernel
theorem dX11_signOf_7 : decode cX11_signOf 7 = .ok (.imul, 1) := by decide +kernel
theorem dX11_signOf_8 : decode cX11_signOf 8 = .ok (.lshr, 1) := by decide +kernel
theorem dX11_signOf_9 : decode cX11_signOf 9 = .ok (.l2i, 1) := by decide +kernel
theorem dX11_signOf_10 : decode cX11_signOf 10 = .ok (.iconst 3, 1) := by decide +kernel
theorem dX11_signOf_11 : decode cX11_signOf 11 = .ok (.iand, 1) := by decide +kernel
theorem dX11_signOf_12 : decode cX11_signOf 12 = .ok (.ireturn, 1) := by decide +kernel
def f_Model_signOf (x0 : Int64) (x2 : Int32) (x3 : Int32) (I : MI) (J : MJ) (Q : Int32 → MI → MJ → Prop) : Prop :=
  Q (((x0 >>> ((2 * ((x2 - 1) - x3)).toInt64 &&& 63)).toInt32) &&& 3) I J
set_option maxRecDepth 100000 in
set_option maxHeartbeats 4000000 in
theorem w_Model_signOf_b0 {Γ : Ctx} {Q : Int32 → MI → MJ → Prop} {x0 : Int64} {x2 : Int32} {x3 : Int32}  (X : Cx Γ cX11_signOf 4 RX11 0) (Y : Rt Γ (Pi Q) (Option.some Jvm.ClassFile.FieldType.int))   {I : MI} {J : MJ} (h : f_Model_signOf x0 x2 x3 I J Q) : Wp Γ 4 0 [(0, .long x0), (2, .int x2), (3, .int x3)] [] I J := by
  unfold f_Model_signOf at h
  refine wp_lload_n X dX11_signOf_0 0 rfl ?_
  refine wp_iconst X dX11_signOf_1 ic_2 ?_
  refine wp_iload_n X dX11_signOf_2 1 rfl ?_
  refine wp_iconst X dX11_signOf_3 ic_1 ?_
  refine wp_isub X dX11_signOf_4 ?_
  refine wp_iload_n X dX11_signOf_5 2 rfl ?_
  refine wp_isub X dX11_signOf_6 ?_
  refine wp_imul X dX11_signOf_7 ?_
  refine wp_lshr X dX11_signOf_8 ?_
  refine wp_l2i X dX11_signOf_9 ?_
  refine wp_iconst X dX11_signOf_10 ic_3 ?_
  refine wp_iand X dX11_signOf_11 ?_
  exact wp_iret X Y dX11_signOf_12 ⟨_, rfl, h⟩

theorem c_Model_signOf {l : Launch} {g : GE} (hg : Inj g) {I : MI} {J : MJ} {Q : Int32 → MI → MJ → Prop} {x0 : Int64} {x2 : Int32} {x3 : Int32}  (h : f_Model_signOf x0 x2 x3 I J Q) : Cm l g yX11_signOf cX11_signOf 4 (Option.some Jvm.ClassFile.FieldType.int) 0 [.long x0, .int x2, .int x3] I J (Pi Q) := by
  refine Cm.of (As := fun ad => [.long x0, .int x2, .int x3]) hg pn_X11 (Nat.le_of_ble_eq_true rfl) ?_
  exact (fun Γ _ _ X Y => w_Model_signOf_b0 X Y  h)
theorem cs_Model_signOf {Γ : Ctx} {cc : ByteArray} {nL d pc index : Nat} {own : String} {L : List (Nat × Value)} {rest : List Value} {I : MI} {J : MJ} {Q : Int32 → MI → MJ → Prop} {x0 : Int64} {x2 : Int32} {x3 : Int32} (X : Cx Γ cc nL own d) (hd : decode cc pc = .ok (.invokestatic index, 3)) (hlink : Cond.methodLink own index yX11_signOf ∈ TT)  (h : f_Model_signOf x0 x2 x3 I J Q) (hrest : (rest.map fun v => v.category).sum ≤ 8) (hdd : 0 + 1 ≤ d) (kk : ∀ (r : Int32) (I' : MI) (J' : MJ), Q r I' J' → Wp Γ nL (pc + 3) L (.int r :: rest) I' J') : Wp Γ nL pc L (.int x3 :: .int x2 :: .long x0 :: rest) I J :=
  wp_callS (As := [.long x0, .int x2, .int x3]) (rest := rest) X hd hlink mv_X11_signOf (c_Model_signOf X.inj  h) rfl rfl hrest hdd (fun v I' J' hv => by obtain ⟨r, rfl, hq⟩ := hv; exact kk r I' J' hq)
theorem dX11_goAll_0 : decode cX11_goAll 0 = .ok (.lload_n 2, 1) := by decide +kernel
theorem dX11_goAll_1 : decode cX11_goAll 1 = .ok (.invokestatic 161, 3) := by decide +kernel
theorem dX11_goAll_4 : decode cX11_goAll 4 = .ok (.istore 6, 2) := by decide +kernel
theorem dX11_goAll_6 : decode cX11_goAll 6 = .ok (.iconst 1, 1) := by decide +kernel
theorem dX11_goAll_7 : decode cX11_goAll 7 = .ok (.istore 7, 2) := by decide +kernel
theorem dX11_goAll_9 : decode cX11_goAll 9 = .ok (.iload 4, 2) := by decide +kernel
theorem dX11_goAll_11 : decode cX11_goAll 11 = .ok (.istore 8, 2) := by decide +kernel
theorem dX11_goAll_13 : decode cX11_goAll 13 = .ok (.iload 8, 2) := by decide +kernel
theorem dX11_goAll_15 : decode cX11_goAll 15 = .ok (.iload 5, 2) := by decide +kernel
theorem dX11_goAll_17 : decode cX11_goAll 17 = .ok (.if_icmp .ge 29, 3) := by decide +kernel
theorem dX11_goAll_20 : decode cX11_goAll 20 = .ok (.iload 7, 2) := by decide +kernel
theorem dX11_goAll_22 : decode cX11_goAll 22 = .ok (.ifCond .eq 24, 3) := by decide +kernel
theorem dX11_goAll_25 : decode cX11_goAll 25 = .ok (.aload_n 0, 1) := by decide +kernel
theorem dX11_goAll_26 : decode cX11_goAll 26 = .ok (.iload_n 1, 1) := by decide +kernel
theorem dX11_goAll_27 : decode cX11_goAll 27 = .ok (.lload_n 2, 1) := by decide +kernel
theorem dX11_goAll_28 : decode cX11_goAll 28 = .ok (.iload 6, 2) := by decide +kernel
theorem dX11_goAll_30 : decode cX11_goAll 30 = .ok (.iload 8, 2) := by decide +kernel
theorem dX11_goAll_32 : decode cX11_goAll 32 = .ok (.invokestatic 175, 3) := by decide +kernel
theorem dX11_goAll_35 : decode cX11_goAll 35 = .ok (.invokevirtual 179, 3) := by decide +kernel
theorem dX11_goAll_38 : decode cX11_goAll 38 = .ok (.istore 7, 2) := by decide +kernel
theorem dX11_goAll_40 : decode cX11_goAll 40 = .ok (.iinc 8 1, 3) := by decide +kernel
theorem dX11_goAll_43 : decode cX11_goAll 43 = .ok (.goto (-30), 3) := by decide +kernel
theorem dX11_goAll_46 : decode cX11_goAll 46 = .ok (.iload 7, 2) := by decide +kernel
theorem dX11_goAll_48 : decode cX11_goAll 48 = .ok (.ireturn, 1) := by decide +kernel
def f_Model_goAll_L13 (x1 : Int32) (x2 : Int64) (x5 : Int32) (x6 : Int32) (k46 : Int32 → MI → MJ → Prop) : Nat → Int32 → Int32 → MI → MJ → Prop
  | 0, _, _, _, _ => False
  | nf13 + 1, x7, x8, I, J =>
  (if x5 ≤ x8 then k46 x7 I J else (if x7 = 0 then k46 x7 I J else f_Model_signOf x2 x6 x8 I J (fun r32 I32 J32 => f_Model_go x1 r32 I32 J32 (fun r35 I35 J35 => ∀ t40 : Int32, t40 = x8 + 1 → f_Model_goAll_L13 x1 x2 x5 x6 k46 nf13 r35 t40 I35 J35))))
def f_Model_goAll (x1 : Int32) (x2 : Int64) (x4 : Int32) (x5 : Int32) (I : MI) (J : MJ) (Q : Int32 → MI → MJ → Prop) : Prop :=
  f_Model_lengthOf x2 I J (fun r1 I1 J1 => ∃ n, f_Model_goAll_L13 x1 x2 x5 r1 (fun (z46_x7 : Int32) (I : MI) (J : MJ) => (z46_x7 = 0 ∨ z46_x7 = 1) ∧ Q z46_x7 I J) n 1 x4 I1 J1)
set_option maxRecDepth 100000 in
set_option maxHeartbeats 4000000 in
theorem w_Model_goAll_L13 {Γ : Ctx} {Q : Int32 → MI → MJ → Prop} {x1 : Int32} {x2 : Int64} {x5 : Int32} {x6 : Int32} {k46 : Int32 → MI → MJ → Prop} (X : Cx Γ cX11_goAll 9 RX11 2) (Y : Rt Γ (Pi Q) (Option.some Jvm.ClassFile.FieldType.boolean))  (hk46 : ∀ (x7 : Int32) (I : MI) (J : MJ), k46 x7 I J → Wp Γ 9 46 [(7, .int x7)] [] I J) : ∀ (n : Nat) (x7 : Int32) (x8 : Int32) (I : MI) (J : MJ), f_Model_goAll_L13 x1 x2 x5 x6 k46 n x7 x8 I J → Wp Γ 9 13 [(0, .ref (ad Γ 177)), (1, .int x1), (2, .long x2), (5, .int x5), (6, .int x6), (7, .int x7), (8, .int x8)] [] I J := by
  intro n
  induction n with
  | zero => intro x7 x8 I J h; exact absurd h (by simp [f_Model_goAll_L13])
  | succ n ih =>
  intro x7 x8 I J h
  unfold f_Model_goAll_L13 at h
  refine wp_iload X dX11_goAll_13 6 rfl ?_
  refine wp_iload X dX11_goAll_15 3 rfl ?_
  refine wp_icmp_ge (tgt := 46) X dX11_goAll_17 (by decide) (fun hc => ?_) (fun hc => ?_)
  · have h := ite_t h hc
    refine wp_sub X [5] rfl ?_
    exact hk46 _ _ _ h
  · have h := ite_f h hc
    refine wp_iload X dX11_goAll_20 5 rfl ?_
    refine wp_if_eq (tgt := 46) X dX11_goAll_22 (by decide) (fun hc => ?_) (fun hc => ?_)
    · have h := ite_t h hc
      refine wp_sub X [5] rfl ?_
      exact hk46 _ _ _ h
    · have h := ite_f h hc
      refine wp_aload_n X dX11_goAll_25 0 rfl ?_
      refine wp_iload_n X dX11_goAll_26 1 rfl ?_
      refine wp_lload_n X dX11_goAll_27 2 rfl ?_
      refine wp_iload X dX11_goAll_28 4 rfl ?_
      refine wp_iload X dX11_goAll_30 6 rfl ?_
      refine cs_Model_signOf X dX11_goAll_32 ml_X11_175  h (Nat.le_of_ble_eq_true rfl) (by decide) (fun r32 I32 J32 h => ?_)
      refine cv_Model_go X dX11_goAll_35 ml_X11_179  h (Nat.le_of_ble_eq_true rfl) (by decide) (fun r35 I35 J35 h => ?_)
      refine wp_istore (L' := [(7, .int r35), (0, .ref (ad Γ 177)), (1, .int x1), (2, .long x2), (5, .int x5), (6, .int x6), (8, .int x8)]) X dX11_goAll_38 (by decide) rfl ?_
      obtain ⟨t40, et40⟩ : ∃ y : Int32, y = x8 + 1 := ⟨_, rfl⟩
      have h := h t40 et40
      refine wp_iinc (L' := [(8, .int t40), (7, .int r35), (0, .ref (ad Γ 177)), (1, .int x1), (2, .long x2), (5, .int x5), (6, .int x6)]) X dX11_goAll_40 6 rfl (ii_1 et40) (by decide) rfl ?_
      refine wp_goto (tgt := 13) X dX11_goAll_43 (by decide) ?_
      refine wp_sub X [2, 3, 4, 5, 6, 1, 0] rfl ?_
      exact ih _ _ _ _ h

set_option maxRecDepth 100000 in
set_option maxHeartbeats 4000000 in
theorem w_Model_goAll_b0 {Γ : Ctx} {Q : Int32 → MI → MJ → Prop} {x1 : Int32} {x2 : Int64} {x4 : Int32} {x5 : Int32}  (X : Cx Γ cX11_goAll 9 RX11 2) (Y : Rt Γ (Pi Q) (Option.some Jvm.ClassFile.FieldType.boolean))   {I : MI} {J : MJ} (h : f_Model_goAll x1 x2 x4 x5 I J Q) : Wp Γ 9 0 [(0, .ref (ad Γ 177)), (1, .int x1), (2, .long x2), (4, .int x4), (5, .int x5)] [] I J := by
  unfold f_Model_goAll at h
  refine wp_lload_n X dX11_goAll_0 2 rfl ?_
  refine cs_Model_lengthOf X dX11_goAll_1 ml_X11_161  h (Nat.le_of_ble_eq_true rfl) (by decide) (fun r1 I1 J1 h => ?_)
  refine wp_istore (L' := [(6, .int r1), (0, .ref (ad Γ 177)), (1, .int x1), (2, .long x2), (4, .int x4), (5, .int x5)]) X dX11_goAll_4 (by decide) rfl ?_
  refine wp_iconst X dX11_goAll_6 ic_1 ?_
  refine wp_istore (L' := [(7, .int 1), (6, .int r1), (0, .ref (ad Γ 177)), (1, .int x1), (2, .long x2), (4, .int x4), (5, .int x5)]) X dX11_goAll_7 (by decide) rfl ?_
  refine wp_iload X dX11_goAll_9 5 rfl ?_
  refine wp_istore (L' := [(8, .int x4), (7, .int 1), (6, .int r1), (0, .ref (ad Γ 177)), (1, .int x1), (2, .long x2), (4, .int x4), (5, .int x5)]) X dX11_goAll_11 (by decide) rfl ?_
  obtain ⟨n, h⟩ := h
  refine wp_sub X [3, 4, 5, 7, 2, 1, 0] rfl ?_
  refine w_Model_goAll_L13 X Y  ?_ n _ _ _ _ h
  · intro z46_x7 I J h
    refine wp_iload X dX11_goAll_46 0 rfl ?_
    exact wp_zret X Y dX11_goAll_48 h.1 ⟨_, rfl, h.2⟩

theorem c_Model_goAll {l : Launch} {g : GE} (hg : Inj g) {I : MI} {J : MJ} {Q : Int32 → MI → MJ → Prop} {x1 : Int32} {x2 : Int64} {x4 : Int32} {x5 : Int32}  (h : f_Model_goAll x1 x2 x4 x5 I J Q) : Cm l g yX11_goAll cX11_goAll 9 (Option.some Jvm.ClassFile.FieldType.boolean) 2 [.ref (g.1 177), .int x1, .long x2, .int x4, .int x5] I J (Pi Q) := by
  refine Cm.of (As := fun ad => [.ref (ad 177), .int x1, .long x2, .int x4, .int x5]) hg pn_X11 (Nat.le_of_ble_eq_true rfl) ?_
  exact (fun Γ _ _ X Y => w_Model_goAll_b0 X Y  h)
theorem cv_Model_goAll {Γ : Ctx} {cc : ByteArray} {nL d pc index : Nat} {own : String} {L : List (Nat × Value)} {rest : List Value} {I : MI} {J : MJ} {Q : Int32 → MI → MJ → Prop} {x1 : Int32} {x2 : Int64} {x4 : Int32} {x5 : Int32} (X : Cx Γ cc nL own d) (hd : decode cc pc = .ok (.invokevirtual index, 3)) (hlink : Cond.methodLink own index yX11_goAll ∈ TT)  (h : f_Model_goAll x1 x2 x4 x5 I J Q) (hrest : (rest.map fun v => v.category).sum ≤ 8) (hdd : 2 + 1 ≤ d) (kk : ∀ (r : Int32) (I' : MI) (J' : MJ), Q r I' J' → Wp Γ nL (pc + 3) L (.int r :: rest) I' J') : Wp Γ nL pc L (.int x5 :: .int x4 :: .long x2 :: .int x1 :: .ref (ad Γ 177) :: rest) I J :=
  wp_callV (As := [.int x1, .long x2, .int x4, .int x5]) (rest := rest) (T := TX11) (N := 62) X hd hlink mv_X11_goAll sh_177 (by decide) rfl (c_Model_goAll X.inj  h) rfl rfl hrest hdd (fun v I' J' hv => by obtain ⟨r, rfl, hq⟩ := hv; exact kk r I' J' hq)
theorem dX11_begin_0 : decode cX11_begin 0 = .ok (.aload_n 0, 1) := by decide +kernel
theorem dX11_begin_1 : decode cX11_begin 1 = .ok (.iconst 0, 1) := by decide +kernel
theorem dX11_begin_2 : decode cX11_begin 2 = .ok (.putfield 165, 3) := by decide +kernel
theorem dX11_begin_5 : decode cX11_begin 5 = .ok (.aload_n 0, 1) := by decide +kernel
theorem dX11_begin_6 : decode cX11_begin 6 = .ok (.iconst 0, 1) := by decide +kernel
theorem dX11_begin_7 : decode cX11_begin 7 = .ok (.putfield 172, 3) := by decide +kernel
theorem dX11_begin_10 : decode cX11_begin 10 = .ok (.return_, 1) := by decide +kernel
def f_Model_begin (I : MI) (J : MJ) (Q : MI → MJ → Prop) : Prop :=
  ∀ I2 : MI, I2 = sI I 177 (upd (I 177) 14 0) → ∀ I7 : MI, I7 = sI I2 177 (upd (I2 177) 15 0) → Q I7 J
set_option maxRecDepth 100000 in
set_option maxHeartbeats 4000000 in
theorem w_Model_begin_b0 {Γ : Ctx} {Q : MI → MJ → Prop}   (X : Cx Γ cX11_begin 1 RX11 0) (Y : Rt Γ (Pv Q) (Option.none : Option Jvm.ClassFile.FieldType))   {I : MI} {J : MJ} (h : f_Model_begin  I J Q) : Wp Γ 1 0 [(0, .ref (ad Γ 177))] [] I J := by
  unfold f_Model_begin at h
  refine wp_aload_n X dX11_begin_0 0 rfl ?_
  refine wp_iconst X dX11_begin_1 ic_0 ?_
  refine pf_X11_165 X sh_177 dX11_begin_2 (fun I2 eI2 => ?_)
  have h := h I2 eI2
  refine wp_aload_n X dX11_begin_5 0 rfl ?_
  refine wp_iconst X dX11_begin_6 ic_0 ?_
  refine pf_X11_172 X sh_177 dX11_begin_7 (fun I7 eI7 => ?_)
  have h := h I7 eI7
  exact wp_vret X Y dX11_begin_10 ⟨rfl, h⟩

theorem c_Model_begin {l : Launch} {g : GE} (hg : Inj g) {I : MI} {J : MJ} {Q : MI → MJ → Prop}   (h : f_Model_begin  I J Q) : Cm l g yX11_begin cX11_begin 1 (Option.none : Option Jvm.ClassFile.FieldType) 0 [.ref (g.1 177)] I J (Pv Q) := by
  refine Cm.of (As := fun ad => [.ref (ad 177)]) hg pn_X11 (Nat.le_of_ble_eq_true rfl) ?_
  exact (fun Γ _ _ X Y => w_Model_begin_b0 X Y  h)
theorem cv_Model_begin {Γ : Ctx} {cc : ByteArray} {nL d pc index : Nat} {own : String} {L : List (Nat × Value)} {rest : List Value} {I : MI} {J : MJ} {Q : MI → MJ → Prop}  (X : Cx Γ cc nL own d) (hd : decode cc pc = .ok (.invokevirtual index, 3)) (hlink : Cond.methodLink own index yX11_begin ∈ TT)  (h : f_Model_begin  I J Q) (hrest : (rest.map fun v => v.category).sum ≤ 8) (hdd : 0 + 1 ≤ d) (kk : ∀ (I' : MI) (J' : MJ), Q I' J' → Wp Γ nL (pc + 3) L rest I' J') : Wp Γ nL pc L (.ref (ad Γ 177) :: rest) I J :=
  wp_callV (As := []) (rest := rest) (T := TX11) (N := 62) X hd hlink mv_X11_begin sh_177 (by decide) rfl (c_Model_begin X.inj  h) rfl rfl hrest hdd (fun v I' J' hv => by obtain ⟨rfl, hq⟩ := hv; exact kk I' J' hq)
theorem dX11_answerBy_0 : decode cX11_answerBy 0 = .ok (.aload_n 0, 1) := by decide +kernel
theorem dX11_answerBy_1 : decode cX11_answerBy 1 = .ok (.invokevirtual 183, 3) := by decide +kernel
theorem dX11_answerBy_4 : decode cX11_answerBy 4 = .ok (.aload_n 0, 1) := by decide +kernel
theorem dX11_answerBy_5 : decode cX11_answerBy 5 = .ok (.iload_n 1, 1) := by decide +kernel
theorem dX11_answerBy_6 : decode cX11_answerBy 6 = .ok (.lload_n 2, 1) := by decide +kernel
theorem dX11_answerBy_7 : decode cX11_answerBy 7 = .ok (.iconst 0, 1) := by decide +kernel
theorem dX11_answerBy_8 : decode cX11_answerBy 8 = .ok (.lload_n 2, 1) := by decide +kernel
theorem dX11_answerBy_9 : decode cX11_answerBy 9 = .ok (.invokestatic 161, 3) := by decide +kernel
theorem dX11_answerBy_12 : decode cX11_answerBy 12 = .ok (.invokevirtual 186, 3) := by decide +kernel
theorem dX11_answerBy_15 : decode cX11_answerBy 15 = .ok (.ifCond .eq 20, 3) := by decide +kernel
theorem dX11_answerBy_18 : decode cX11_answerBy 18 = .ok (.aload_n 0, 1) := by decide +kernel
theorem dX11_answerBy_19 : decode cX11_answerBy 19 = .ok (.getfield 39, 3) := by decide +kernel
theorem dX11_answerBy_22 : decode cX11_answerBy 22 = .ok (.bipush 14, 2) := by decide +kernel
theorem dX11_answerBy_24 : decode cX11_answerBy 24 = .ok (.iload_n 1, 1) := by decide +kernel
theorem dX11_answerBy_25 : decode cX11_answerBy 25 = .ok (.imul, 1) := by decide +kernel
theorem dX11_answerBy_26 : decode cX11_answerBy 26 = .ok (.aload_n 0, 1) := by decide +kernel
theorem dX11_answerBy_27 : decode cX11_answerBy 27 = .ok (.getfield 165, 3) := by decide +kernel
theorem dX11_answerBy_30 : decode cX11_answerBy 30 = .ok (.iadd, 1) := by decide +kernel
theorem dX11_answerBy_31 : decode cX11_answerBy 31 = .ok (.iaload, 1) := by decide +kernel
theorem dX11_answerBy_32 : decode cX11_answerBy 32 = .ok (.goto 5, 3) := by decide +kernel
theorem dX11_answerBy_35 : decode cX11_answerBy 35 = .ok (.bipush 8, 2) := by decide +kernel
theorem dX11_answerBy_37 : decode cX11_answerBy 37 = .ok (.ireturn, 1) := by decide +kernel
def f_Model_answerBy (x1 : Int32) (x2 : Int64) (I : MI) (J : MJ) (Q : Int32 → MI → MJ → Prop) : Prop :=
  f_Model_begin I J (fun I1 J1 => f_Model_lengthOf x2 I1 J1 (fun r9 I9 J9 => f_Model_goAll x1 x2 (0 : Int32) r9 I9 J9 (fun r12 I12 J12 => (if r12 = 0 then Q 8 I12 J12 else vp_in ((14 * x1) + (I12 177 14)) 280 ∧ Q (I12 187 ((14 * x1) + (I12 177 14)).toNatClampNeg) I12 J12))))
set_option maxRecDepth 100000 in
set_option maxHeartbeats 4000000 in
theorem w_Model_answerBy_b0 {Γ : Ctx} {Q : Int32 → MI → MJ → Prop} {x1 : Int32} {x2 : Int64}  (X : Cx Γ cX11_answerBy 4 RX11 3) (Y : Rt Γ (Pi Q) (Option.some Jvm.ClassFile.FieldType.int))   {I : MI} {J : MJ} (h : f_Model_answerBy x1 x2 I J Q) : Wp Γ 4 0 [(0, .ref (ad Γ 177)), (1, .int x1), (2, .long x2)] [] I J := by
  unfold f_Model_answerBy at h
  refine wp_aload_n X dX11_answerBy_0 0 rfl ?_
  refine cv_Model_begin X dX11_answerBy_1 ml_X11_183  h (Nat.le_of_ble_eq_true rfl) (by decide) (fun I1 J1 h => ?_)
  refine wp_aload_n X dX11_answerBy_4 0 rfl ?_
  refine wp_iload_n X dX11_answerBy_5 1 rfl ?_
  refine wp_lload_n X dX11_answerBy_6 2 rfl ?_
  refine wp_iconst X dX11_answerBy_7 ic_0 ?_
  refine wp_lload_n X dX11_answerBy_8 2 rfl ?_
  refine cs_Model_lengthOf X dX11_answerBy_9 ml_X11_161  h (Nat.le_of_ble_eq_true rfl) (by decide) (fun r9 I9 J9 h => ?_)
  refine cv_Model_goAll X dX11_answerBy_12 ml_X11_186  h (Nat.le_of_ble_eq_true rfl) (by decide) (fun r12 I12 J12 h => ?_)
  refine wp_if_eq (tgt := 35) X dX11_answerBy_15 (by decide) (fun hc => ?_) (fun hc => ?_)
  · have h := ite_t h hc
    refine wp_bipush X dX11_answerBy_35 bi_8 ?_
    exact wp_iret X Y dX11_answerBy_37 ⟨_, rfl, h⟩
  · have h := ite_f h hc
    refine wp_aload_n X dX11_answerBy_18 0 rfl ?_
    refine gf_X11_39 (o' := 187) X sh_177 rfl dX11_answerBy_19 ?_
    refine wp_bipush X dX11_answerBy_22 bi_14 ?_
    refine wp_iload_n X dX11_answerBy_24 1 rfl ?_
    refine wp_imul X dX11_answerBy_25 ?_
    refine wp_aload_n X dX11_answerBy_26 0 rfl ?_
    refine gf_X11_165 X sh_177 dX11_answerBy_27 ?_
    refine wp_iadd X dX11_answerBy_30 ?_
    obtain ⟨hb31, h⟩ := h
    refine wp_iald X sh_187 hb31 dX11_answerBy_31 ?_
    refine wp_goto (tgt := 37) X dX11_answerBy_32 (by decide) ?_
    exact wp_iret X Y dX11_answerBy_37 ⟨_, rfl, h⟩

theorem c_Model_answerBy {l : Launch} {g : GE} (hg : Inj g) {I : MI} {J : MJ} {Q : Int32 → MI → MJ → Prop} {x1 : Int32} {x2 : Int64}  (h : f_Model_answerBy x1 x2 I J Q) : Cm l g yX11_answerBy cX11_answerBy 4 (Option.some Jvm.ClassFile.FieldType.int) 3 [.ref (g.1 177), .int x1, .long x2] I J (Pi Q) := by
  refine Cm.of (As := fun ad => [.ref (ad 177), .int x1, .long x2]) hg pn_X11 (Nat.le_of_ble_eq_true rfl) ?_
  exact (fun Γ _ _ X Y => w_Model_answerBy_b0 X Y  h)
theorem cv_Model_answerBy {Γ : Ctx} {cc : ByteArray} {nL d pc index : Nat} {own : String} {L : List (Nat × Value)} {rest : List Value} {I : MI} {J : MJ} {Q : Int32 → MI → MJ → Prop} {x1 : Int32} {x2 : Int64} (X : Cx Γ cc nL own d) (hd : decode cc pc = .ok (.invokevirtual index, 3)) (hlink : Cond.methodLink own index yX11_answerBy ∈ TT)  (h : f_Model_answerBy x1 x2 I J Q) (hrest : (rest.map fun v => v.category).sum ≤ 8) (hdd : 3 + 1 ≤ d) (kk : ∀ (r : Int32) (I' : MI) (J' : MJ), Q r I' J' → Wp Γ nL (pc + 3) L (.int r :: rest) I' J') : Wp Γ nL pc L (.long x2 :: .int x1 :: .ref (ad Γ 177) :: rest) I J :=
  wp_callV (As := [.int x1, .long x2]) (rest := rest) (T := TX11) (N := 62) X hd hlink mv_X11_answerBy sh_177 (by decide) rfl (c_Model_answerBy X.inj  h) rfl rfl hrest hdd (fun v I' J' hv => by obtain ⟨r, rfl, hq⟩ := hv; exact kk r I' J' hq)
theorem dX11_findPair_0 : decode cX11_findPair 0 = .ok (.iconst (-1), 1) := by decide +kernel
theorem dX11_findPair_1 : decode cX11_findPair 1 = .ok (.istore_n 3, 1) := by decide +kernel
theorem dX11_findPair_2 : decode cX11_findPair 2 = .ok (.iconst 0, 1) := by decide +kernel
theorem dX11_findPair_3 : decode cX11_findPair 3 = .ok (.istore 4, 2) := by decide +kernel
theorem dX11_findPair_5 : decode cX11_findPair 5 = .ok (.iload 4, 2) := by decide +kernel
theorem dX11_findPair_7 : decode cX11_findPair 7 = .ok (.aload_n 0, 1) := by decide +kernel
theorem dX11_findPair_8 : decode cX11_findPair 8 = .ok (.getfield 190, 3) := by decide +kernel
theorem dX11_findPair_11 : decode cX11_findPair 11 = .ok (.if_icmp .ge 38, 3) := by decide +kernel
theorem dX11_findPair_14 : decode cX11_findPair 14 = .ok (.aload_n 0, 1) := by decide +kernel
theorem dX11_findPair_15 : decode cX11_findPair 15 = .ok (.getfield 51, 3) := by decide +kernel
theorem dX11_findPair_18 : decode cX11_findPair 18 = .ok (.iload 4, 2) := by decide +kernel
theorem dX11_findPair_20 : decode cX11_findPair 20 = .ok (.iaload, 1) := by decide +kernel
theorem dX11_findPair_21 : decode cX11_findPair 21 = .ok (.iload_n 1, 1) := by decide +kernel
theorem dX11_findPair_22 : decode cX11_findPair 22 = .ok (.if_icmp .ne 19, 3) := by decide +kernel
theorem dX11_findPair_25 : decode cX11_findPair 25 = .ok (.aload_n 0, 1) := by decide +kernel
theorem dX11_findPair_26 : decode cX11_findPair 26 = .ok (.getfield 54, 3) := by decide +kernel
theorem dX11_findPair_29 : decode cX11_findPair 29 = .ok (.iload 4, 2) := by decide +kernel
theorem dX11_findPair_31 : decode cX11_findPair 31 = .ok (.iaload, 1) := by decide +kernel
theorem dX11_findPair_32 : decode cX11_findPair 32 = .ok (.iload_n 2, 1) := by decide +kernel
theorem dX11_findPair_33 : decode cX11_findPair 33 = .ok (.if_icmp .ne 8, 3) := by decide +kernel
theorem dX11_findPair_36 : decode cX11_findPair 36 = .ok (.iload 4, 2) := by decide +kernel
theorem dX11_findPair_38 : decode cX11_findPair 38 = .ok (.goto 4, 3) := by decide +kernel
theorem dX11_findPair_41 : decode cX11_findPair 41 = .ok (.iload_n 3, 1) := by decide +kernel
theorem dX11_findPair_42 : decode cX11_findPair 42 = .ok (.istore_n 3, 1) := by decide +kernel
theorem dX11_findPair_43 : decode cX11_findPair 43 = .ok (.iinc 4 1, 3) := by decide +kernel
theorem dX11_findPair_46 : decode cX11_findPair 46 = .ok (.goto (-41), 3) := by decide +kernel
theorem dX11_findPair_49 : decode cX11_findPair 49 = .ok (.iload_n 3, 1) := by decide +kernel
theorem dX11_findPair_50 : decode cX11_findPair 50 = .ok (.ireturn, 1) := by decide +kernel
def f_Model_findPair_b42 (x4 : Int32) (s0 : Int32) (kh : Int32 → Int32 → MI → MJ → Prop) (I : MI) (J : MJ) : Prop :=
  ∀ t43 : Int32, t43 = x4 + 1 → kh s0 t43 I J
def f_Model_findPair_b41 (x3 : Int32) (x4 : Int32) (kh : Int32 → Int32 → MI → MJ → Prop) (I : MI) (J : MJ) : Prop :=
  f_Model_findPair_b42 x4 x3 kh I J
def f_Model_findPair_L5 (x1 : Int32) (x2 : Int32) (k49 : Int32 → MI → MJ → Prop) : Nat → Int32 → Int32 → MI → MJ → Prop
  | 0, _, _, _, _ => False
  | nf5 + 1, x3, x4, I, J =>
  (if (I 177 16) ≤ x4 then k49 x3 I J else vp_in x4 57 ∧ (if (I 191 x4.toNatClampNeg) = x1 then vp_in x4 57 ∧ (if (I 192 x4.toNatClampNeg) = x2 then f_Model_findPair_b42 x4 x4 (f_Model_findPair_L5 x1 x2 k49 nf5) I J else f_Model_findPair_b41 x3 x4 (f_Model_findPair_L5 x1 x2 k49 nf5) I J) else f_Model_findPair_b41 x3 x4 (f_Model_findPair_L5 x1 x2 k49 nf5) I J))
def f_Model_findPair (x1 : Int32) (x2 : Int32) (I : MI) (J : MJ) (Q : Int32 → MI → MJ → Prop) : Prop :=
  ∃ n, f_Model_findPair_L5 x1 x2 (fun (z49_x3 : Int32) (I : MI) (J : MJ) => Q z49_x3 I J) n (-1) 0 I J
set_option maxRecDepth 100000 in
set_option maxHeartbeats 4000000 in
theorem w_Model_findPair_b42 {Γ : Ctx} {Q : Int32 → MI → MJ → Prop} {x1 : Int32} {x2 : Int32} {x4 : Int32} {s0 : Int32} {kh : Int32 → Int32 → MI → MJ → Prop} (X : Cx Γ cX11_findPair 5 RX11 0) (Y : Rt Γ (Pi Q) (Option.some Jvm.ClassFile.FieldType.int))  (hkh : ∀ (x3 : Int32) (x4 : Int32) (I : MI) (J : MJ), kh x3 x4 I J → Wp Γ 5 5 [(0, .ref (ad Γ 177)), (1, .int x1), (2, .int x2), (3, .int x3), (4, .int x4)] [] I J) {I : MI} {J : MJ} (h : f_Model_findPair_b42 x4 s0 kh I J) : Wp Γ 5 42 [(0, .ref (ad Γ 177)), (1, .int x1), (2, .int x2), (4, .int x4)] [.int s0] I J := by
  unfold f_Model_findPair_b42 at h
  refine wp_istore_n (L' := [(3, .int s0), (0, .ref (ad Γ 177)), (1, .int x1), (2, .int x2), (4, .int x4)]) X dX11_findPair_42 rfl (by decide) rfl ?_
  obtain ⟨t43, et43⟩ : ∃ y : Int32, y = x4 + 1 := ⟨_, rfl⟩
  have h := h t43 et43
  refine wp_iinc (L' := [(4, .int t43), (3, .int s0), (0, .ref (ad Γ 177)), (1, .int x1), (2, .int x2)]) X dX11_findPair_43 4 rfl (ii_1 et43) (by decide) rfl ?_
  refine wp_goto (tgt := 5) X dX11_findPair_46 (by decide) ?_
  refine wp_sub X [2, 3, 4, 1, 0] rfl ?_
  exact hkh _ _ _ _ h

set_option maxRecDepth 100000 in
set_option maxHeartbeats 4000000 in
theorem w_Model_findPair_b41 {Γ : Ctx} {Q : Int32 → MI → MJ → Prop} {x1 : Int32} {x2 : Int32} {x3 : Int32} {x4 : Int32} {kh : Int32 → Int32 → MI → MJ → Prop} (X : Cx Γ cX11_findPair 5 RX11 0) (Y : Rt Γ (Pi Q) (Option.some Jvm.ClassFile.FieldType.int))  (hkh : ∀ (x3 : Int32) (x4 : Int32) (I : MI) (J : MJ), kh x3 x4 I J → Wp Γ 5 5 [(0, .ref (ad Γ 177)), (1, .int x1), (2, .int x2), (3, .int x3), (4, .int x4)] [] I J) {I : MI} {J : MJ} (h : f_Model_findPair_b41 x3 x4 kh I J) : Wp Γ 5 41 [(0, .ref (ad Γ 177)), (1, .int x1), (2, .int x2), (3, .int x3), (4, .int x4)] [] I J := by
  unfold f_Model_findPair_b41 at h
  refine wp_iload_n X dX11_findPair_41 3 rfl ?_
  refine wp_sub X [0, 1, 2, 4] rfl ?_
  exact w_Model_findPair_b42 X Y hkh h

set_option maxRecDepth 100000 in
set_option maxHeartbeats 4000000 in
theorem w_Model_findPair_L5 {Γ : Ctx} {Q : Int32 → MI → MJ → Prop} {x1 : Int32} {x2 : Int32} {k49 : Int32 → MI → MJ → Prop} (X : Cx Γ cX11_findPair 5 RX11 0) (Y : Rt Γ (Pi Q) (Option.some Jvm.ClassFile.FieldType.int))  (hk49 : ∀ (x3 : Int32) (I : MI) (J : MJ), k49 x3 I J → Wp Γ 5 49 [(3, .int x3)] [] I J) : ∀ (n : Nat) (x3 : Int32) (x4 : Int32) (I : MI) (J : MJ), f_Model_findPair_L5 x1 x2 k49 n x3 x4 I J → Wp Γ 5 5 [(0, .ref (ad Γ 177)), (1, .int x1), (2, .int x2), (3, .int x3), (4, .int x4)] [] I J := by
  intro n
  induction n with
  | zero => intro x3 x4 I J h; exact absurd h (by simp [f_Model_findPair_L5])
  | succ n ih =>
  intro x3 x4 I J h
  unfold f_Model_findPair_L5 at h
  refine wp_iload X dX11_findPair_5 4 rfl ?_
  refine wp_aload_n X dX11_findPair_7 0 rfl ?_
  refine gf_X11_190 X sh_177 dX11_findPair_8 ?_
  refine wp_icmp_ge (tgt := 49) X dX11_findPair_11 (by decide) (fun hc => ?_) (fun hc => ?_)
  · have h := ite_t h hc
    refine wp_sub X [3] rfl ?_
    exact hk49 _ _ _ h
  · have h := ite_f h hc
    refine wp_aload_n X dX11_findPair_14 0 rfl ?_
    refine gf_X11_51 (o' := 191) X sh_177 rfl dX11_findPair_15 ?_
    refine wp_iload X dX11_findPair_18 4 rfl ?_
    obtain ⟨hb20, h⟩ := h
    refine wp_iald X sh_191 hb20 dX11_findPair_20 ?_
    refine wp_iload_n X dX11_findPair_21 1 rfl ?_
    refine wp_icmp_ne (tgt := 41) X dX11_findPair_22 (by decide) (fun hc => ?_) (fun hc => ?_)
    · have h := ite_f h hc
      exact w_Model_findPair_b41 X Y ih h
    · have h := ite_t h hc
      refine wp_aload_n X dX11_findPair_25 0 rfl ?_
      refine gf_X11_54 (o' := 192) X sh_177 rfl dX11_findPair_26 ?_
      refine wp_iload X dX11_findPair_29 4 rfl ?_
      obtain ⟨hb31, h⟩ := h
      refine wp_iald X sh_192 hb31 dX11_findPair_31 ?_
      refine wp_iload_n X dX11_findPair_32 2 rfl ?_
      refine wp_icmp_ne (tgt := 41) X dX11_findPair_33 (by decide) (fun hc => ?_) (fun hc => ?_)
      · have h := ite_f h hc
        exact w_Model_findPair_b41 X Y ih h
      · have h := ite_t h hc
        refine wp_iload X dX11_findPair_36 4 rfl ?_
        refine wp_goto (tgt := 42) X dX11_findPair_38 (by decide) ?_
        refine wp_sub X [0, 1, 2, 4] rfl ?_
        exact w_Model_findPair_b42 X Y ih h

set_option maxRecDepth 100000 in
set_option maxHeartbeats 4000000 in
theorem w_Model_findPair_b0 {Γ : Ctx} {Q : Int32 → MI → MJ → Prop} {x1 : Int32} {x2 : Int32}  (X : Cx Γ cX11_findPair 5 RX11 0) (Y : Rt Γ (Pi Q) (Option.some Jvm.ClassFile.FieldType.int))   {I : MI} {J : MJ} (h : f_Model_findPair x1 x2 I J Q) : Wp Γ 5 0 [(0, .ref (ad Γ 177)), (1, .int x1), (2, .int x2)] [] I J := by
  unfold f_Model_findPair at h
  refine wp_iconst X dX11_findPair_0 ic_m1 ?_
  refine wp_istore_n (L' := [(3, .int (-1)), (0, .ref (ad Γ 177)), (1, .int x1), (2, .int x2)]) X dX11_findPair_1 rfl (by decide) rfl ?_
  refine wp_iconst X dX11_findPair_2 ic_0 ?_
  refine wp_istore (L' := [(4, .int 0), (3, .int (-1)), (0, .ref (ad Γ 177)), (1, .int x1), (2, .int x2)]) X dX11_findPair_3 (by decide) rfl ?_
  obtain ⟨n, h⟩ := h
  refine wp_sub X [2, 3, 4, 1, 0] rfl ?_
  refine w_Model_findPair_L5 X Y  ?_ n _ _ _ _ h
  · intro z49_x3 I J h
    refine wp_iload_n X dX11_findPair_49 0 rfl ?_
    exact wp_iret X Y dX11_findPair_50 ⟨_, rfl, h⟩

theorem c_Model_findPair {l : Launch} {g : GE} (hg : Inj g) {I : MI} {J : MJ} {Q : Int32 → MI → MJ → Prop} {x1 : Int32} {x2 : Int32}  (h : f_Model_findPair x1 x2 I J Q) : Cm l g yX11_findPair cX11_findPair 5 (Option.some Jvm.ClassFile.FieldType.int) 0 [.ref (g.1 177), .int x1, .int x2] I J (Pi Q) := by
  refine Cm.of (As := fun ad => [.ref (ad 177), .int x1, .int x2]) hg pn_X11 (Nat.le_of_ble_eq_true rfl) ?_
  exact (fun Γ _ _ X Y => w_Model_findPair_b0 X Y  h)
theorem cv_Model_findPair {Γ : Ctx} {cc : ByteArray} {nL d pc index : Nat} {own : String} {L : List (Nat × Value)} {rest : List Value} {I : MI} {J : MJ} {Q : Int32 → MI → MJ → Prop} {x1 : Int32} {x2 : Int32} (X : Cx Γ cc nL own d) (hd : decode cc pc = .ok (.invokevirtual index, 3)) (hlink : Cond.methodLink own index yX11_findPair ∈ TT)  (h : f_Model_findPair x1 x2 I J Q) (hrest : (rest.map fun v => v.category).sum ≤ 8) (hdd : 0 + 1 ≤ d) (kk : ∀ (r : Int32) (I' : MI) (J' : MJ), Q r I' J' → Wp Γ nL (pc + 3) L (.int r :: rest) I' J') : Wp Γ nL pc L (.int x2 :: .int x1 :: .ref (ad Γ 177) :: rest) I J :=
  wp_callV (As := [.int x1, .int x2]) (rest := rest) (T := TX11) (N := 62) X hd hlink mv_X11_findPair sh_177 (by decide) rfl (c_Model_findPair X.inj  h) rfl rfl hrest hdd (fun v I' J' hv => by obtain ⟨r, rfl, hq⟩ := hv; exact kk r I' J' hq)
theorem dX11_findPairs_0 : decode cX11_findPairs 0 = .ok (.aload_n 0, 1) := by decide +kernel
theorem dX11_findPairs_1 : decode cX11_findPairs 1 = .ok (.getfield 51, 3) := by decide +kernel
theorem dX11_findPairs_4 : decode cX11_findPairs 4 = .ok (.iconst 0, 1) := by decide +kernel
theorem dX11_findPairs_5 : decode cX11_findPairs 5 = .ok (.iconst 0, 1) := by decide +kernel
theorem dX11_findPairs_6 : decode cX11_findPairs 6 = .ok (.iastore, 1) := by decide +kernel
theorem dX11_findPairs_7 : decode cX11_findPairs 7 = .ok (.aload_n 0, 1) := by decide +kernel
theorem dX11_findPairs_8 : decode cX11_findPairs 8 = .ok (.getfield 54, 3) := by decide +kernel
theorem dX11_findPairs_11 : decode cX11_findPairs 11 = .ok (.iconst 0, 1) := by decide +kernel
theorem dX11_findPairs_12 : decode cX11_findPairs 12 = .ok (.iconst 0, 1) := by decide +kernel
theorem dX11_findPairs_13 : decode cX11_findPairs 13 = .ok (.iastore, 1) := by decide +kernel
theorem dX11_findPairs_14 : decode cX11_findPairs 14 = .ok (.aload_n 0, 1) := by decide +kernel
theorem dX11_findPairs_15 : decode cX11_findPairs 15 = .ok (.getfield 57, 3) := by decide +kernel
theorem dX11_findPairs_18 : decode cX11_findPairs 18 = .ok (.iconst 0, 1) := by decide +kernel
theorem dX11_findPairs_19 : decode cX11_findPairs 19 = .ok (.lconst 1, 1) := by decide +kernel
theorem dX11_findPairs_20 : decode cX11_findPairs 20 = .ok (.lastore, 1) := by decide +kernel
theorem dX11_findPairs_21 : decode cX11_findPairs 21 = .ok (.aload_n 0, 1) := by decide +kernel
theorem dX11_findPairs_22 : decode cX11_findPairs 22 = .ok (.iconst 1, 1) := by decide +kernel
theorem dX11_findPairs_23 : decode cX11_findPairs 23 = .ok (.putfield 190, 3) := by decide +kernel
theorem dX11_findPairs_26 : decode cX11_findPairs 26 = .ok (.iconst 0, 1) := by decide +kernel
theorem dX11_findPairs_27 : decode cX11_findPairs 27 = .ok (.istore_n 2, 1) := by decide +kernel
theorem dX11_findPairs_28 : decode cX11_findPairs 28 = .ok (.iload_n 2, 1) := by decide +kernel
theorem dX11_findPairs_29 : decode cX11_findPairs 29 = .ok (.aload_n 0, 1) := by decide +kernel
theorem dX11_findPairs_30 : decode cX11_findPairs 30 = .ok (.getfield 190, 3) := by decide +kernel
theorem dX11_findPairs_33 : decode cX11_findPairs 33 = .ok (.if_icmp .ge 152, 3) := by decide +kernel
theorem dX11_findPairs_36 : decode cX11_findPairs 36 = .ok (.aload_n 0, 1) := by decide +kernel
theorem dX11_findPairs_37 : decode cX11_findPairs 37 = .ok (.getfield 190, 3) := by decide +kernel
theorem dX11_findPairs_40 : decode cX11_findPairs 40 = .ok (.bipush 14, 2) := by decide +kernel
theorem dX11_findPairs_42 : decode cX11_findPairs 42 = .ok (.if_icmp .gt 143, 3) := by decide +kernel
theorem dX11_findPairs_45 : decode cX11_findPairs 45 = .ok (.iconst 0, 1) := by decide +kernel
theorem dX11_findPairs_46 : decode cX11_findPairs 46 = .ok (.istore_n 3, 1) := by decide +kernel
theorem dX11_findPairs_47 : decode cX11_findPairs 47 = .ok (.iload_n 3, 1) := by decide +kernel
theorem dX11_findPairs_48 : decode cX11_findPairs 48 = .ok (.iconst 4, 1) := by decide +kernel
theorem dX11_findPairs_49 : decode cX11_findPairs 49 = .ok (.if_icmp .ge 130, 3) := by decide +kernel
theorem dX11_findPairs_52 : decode cX11_findPairs 52 = .ok (.aload_n 0, 1) := by decide +kernel
theorem dX11_findPairs_53 : decode cX11_findPairs 53 = .ok (.aload_n 0, 1) := by decide +kernel
theorem dX11_findPairs_54 : decode cX11_findPairs 54 = .ok (.getfield 51, 3) := by decide +kernel
theorem dX11_findPairs_57 : decode cX11_findPairs 57 = .ok (.iload_n 2, 1) := by decide +kernel
theorem dX11_findPairs_58 : decode cX11_findPairs 58 = .ok (.iaload, 1) := by decide +kernel
theorem dX11_findPairs_59 : decode cX11_findPairs 59 = .ok (.putfield 165, 3) := by decide +kernel
theorem dX11_findPairs_62 : decode cX11_findPairs 62 = .ok (.aload_n 0, 1) := by decide +kernel
theorem dX11_findPairs_63 : decode cX11_findPairs 63 = .ok (.aload_n 0, 1) := by decide +kernel
theorem dX11_findPairs_64 : decode cX11_findPairs 64 = .ok (.getfield 54, 3) := by decide +kernel
theorem dX11_findPairs_67 : decode cX11_findPairs 67 = .ok (.iload_n 2, 1) := by decide +kernel
theorem dX11_findPairs_68 : decode cX11_findPairs 68 = .ok (.iaload, 1) := by decide +kernel
theorem dX11_findPairs_69 : decode cX11_findPairs 69 = .ok (.putfield 172, 3) := by decide +kernel
theorem dX11_findPairs_72 : decode cX11_findPairs 72 = .ok (.iconst (-1), 1) := by decide +kernel
theorem dX11_findPairs_73 : decode cX11_findPairs 73 = .ok (.istore 4, 2) := by decide +kernel
theorem dX11_findPairs_75 : decode cX11_findPairs 75 = .ok (.aload_n 0, 1) := by decide +kernel
theorem dX11_findPairs_76 : decode cX11_findPairs 76 = .ok (.iload_n 1, 1) := by decide +kernel
theorem dX11_findPairs_77 : decode cX11_findPairs 77 = .ok (.iload_n 3, 1) := by decide +kernel
theorem dX11_findPairs_78 : decode cX11_findPairs 78 = .ok (.invokevirtual 179, 3) := by decide +kernel
theorem dX11_findPairs_81 : decode cX11_findPairs 81 = .ok (.ifCond .eq 80, 3) := by decide +kernel
theorem dX11_findPairs_84 : decode cX11_findPairs 84 = .ok (.aload_n 0, 1) := by decide +kernel
theorem dX11_findPairs_85 : decode cX11_findPairs 85 = .ok (.aload_n 0, 1) := by decide +kernel
theorem dX11_findPairs_86 : decode cX11_findPairs 86 = .ok (.getfield 165, 3) := by decide +kernel
theorem dX11_findPairs_89 : decode cX11_findPairs 89 = .ok (.aload_n 0, 1) := by decide +kernel
theorem dX11_findPairs_90 : decode cX11_findPairs 90 = .ok (.getfield 172, 3) := by decide +kernel
theorem dX11_findPairs_93 : decode cX11_findPairs 93 = .ok (.invokevirtual 193, 3) := by decide +kernel
theorem dX11_findPairs_96 : decode cX11_findPairs 96 = .ok (.istore 4, 2) := by decide +kernel
theorem dX11_findPairs_98 : decode cX11_findPairs 98 = .ok (.iload 4, 2) := by decide +kernel
theorem dX11_findPairs_100 : decode cX11_findPairs 100 = .ok (.ifCond .ge 61, 3) := by decide +kernel
theorem dX11_findPairs_103 : decode cX11_findPairs 103 = .ok (.aload_n 0, 1) := by decide +kernel
theorem dX11_findPairs_104 : decode cX11_findPairs 104 = .ok (.getfield 190, 3) := by decide +kernel
theorem dX11_findPairs_107 : decode cX11_findPairs 107 = .ok (.istore 4, 2) := by decide +kernel
theorem dX11_findPairs_109 : decode cX11_findPairs 109 = .ok (.aload_n 0, 1) := by decide +kernel
theorem dX11_findPairs_110 : decode cX11_findPairs 110 = .ok (.getfield 51, 3) := by decide +kernel
theorem dX11_findPairs_113 : decode cX11_findPairs 113 = .ok (.iload 4, 2) := by decide +kernel
theorem dX11_findPairs_115 : decode cX11_findPairs 115 = .ok (.aload_n 0, 1) := by decide +kernel
theorem dX11_findPairs_116 : decode cX11_findPairs 116 = .ok (.getfield 165, 3) := by decide +kernel
theorem dX11_findPairs_119 : decode cX11_findPairs 119 = .ok (.iastore, 1) := by decide +kernel
theorem dX11_findPairs_120 : decode cX11_findPairs 120 = .ok (.aload_n 0, 1) := by decide +kernel
theorem dX11_findPairs_121 : decode cX11_findPairs 121 = .ok (.getfield 54, 3) := by decide +kernel
theorem dX11_findPairs_124 : decode cX11_findPairs 124 = .ok (.iload 4, 2) := by decide +kernel
theorem dX11_findPairs_126 : decode cX11_findPairs 126 = .ok (.aload_n 0, 1) := by decide +kernel
theorem dX11_findPairs_127 : decode cX11_findPairs 127 = .ok (.getfield 172, 3) := by decide +kernel
theorem dX11_findPairs_130 : decode cX11_findPairs 130 = .ok (.iastore, 1) := by decide +kernel
theorem dX11_findPairs_131 : decode cX11_findPairs 131 = .ok (.aload_n 0, 1) := by decide +kernel
theorem dX11_findPairs_132 : decode cX11_findPairs 132 = .ok (.getfield 57, 3) := by decide +kernel
theorem dX11_findPairs_135 : decode cX11_findPairs 135 = .ok (.iload 4, 2) := by decide +kernel
theorem dX11_findPairs_137 : decode cX11_findPairs 137 = .ok (.ldc2_w 197, 3) := by decide +kernel
theorem dX11_findPairs_140 : decode cX11_findPairs 140 = .ok (.aload_n 0, 1) := by decide +kernel
theorem dX11_findPairs_141 : decode cX11_findPairs 141 = .ok (.getfield 57, 3) := by decide +kernel
theorem dX11_findPairs_144 : decode cX11_findPairs 144 = .ok (.iload_n 2, 1) := by decide +kernel
theorem dX11_findPairs_145 : decode cX11_findPairs 145 = .ok (.laload, 1) := by decide +kernel
theorem dX11_findPairs_146 : decode cX11_findPairs 146 = .ok (.lmul, 1) := by decide +kernel
theorem dX11_findPairs_147 : decode cX11_findPairs 147 = .ok (.iload_n 3, 1) := by decide +kernel
theorem dX11_findPairs_148 : decode cX11_findPairs 148 = .ok (.i2l, 1) := by decide +kernel
theorem dX11_findPairs_149 : decode cX11_findPairs 149 = .ok (.ladd, 1) := by decide +kernel
theorem dX11_findPairs_150 : decode cX11_findPairs 150 = .ok (.lastore, 1) := by decide +kernel
theorem dX11_findPairs_151 : decode cX11_findPairs 151 = .ok (.aload_n 0, 1) := by decide +kernel
theorem dX11_findPairs_152 : decode cX11_findPairs 152 = .ok (.dup, 1) := by decide +kernel
theorem dX11_findPairs_153 : decode cX11_findPairs 153 = .ok (.getfield 190, 3) := by decide +kernel
theorem dX11_findPairs_156 : decode cX11_findPairs 156 = .ok (.iconst 1, 1) := by decide +kernel
theorem dX11_findPairs_157 : decode cX11_findPairs 157 = .ok (.iadd, 1) := by decide +kernel
theorem dX11_findPairs_158 : decode cX11_findPairs 158 = .ok (.putfield 190, 3) := by decide +kernel
theorem dX11_findPairs_161 : decode cX11_findPairs 161 = .ok (.aload_n 0, 1) := by decide +kernel
theorem dX11_findPairs_162 : decode cX11_findPairs 162 = .ok (.getfield 60, 3) := by decide +kernel
theorem dX11_findPairs_165 : decode cX11_findPairs 165 = .ok (.iconst 4, 1) := by decide +kernel
theorem dX11_findPairs_166 : decode cX11_findPairs 166 = .ok (.iload_n 2, 1) := by decide +kernel
theorem dX11_findPairs_167 : decode cX11_findPairs 167 = .ok (.imul, 1) := by decide +kernel
theorem dX11_findPairs_168 : decode cX11_findPairs 168 = .ok (.iload_n 3, 1) := by decide +kernel
theorem dX11_findPairs_169 : decode cX11_findPairs 169 = .ok (.iadd, 1) := by decide +kernel
theorem dX11_findPairs_170 : decode cX11_findPairs 170 = .ok (.iload 4, 2) := by decide +kernel
theorem dX11_findPairs_172 : decode cX11_findPairs 172 = .ok (.iastore, 1) := by decide +kernel
theorem dX11_findPairs_173 : decode cX11_findPairs 173 = .ok (.iinc 3 1, 3) := by decide +kernel
theorem dX11_findPairs_176 : decode cX11_findPairs 176 = .ok (.goto (-129), 3) := by decide +kernel
theorem dX11_findPairs_179 : decode cX11_findPairs 179 = .ok (.iinc 2 1, 3) := by decide +kernel
theorem dX11_findPairs_182 : decode cX11_findPairs 182 = .ok (.goto (-154), 3) := by decide +kernel
theorem dX11_findPairs_185 : decode cX11_findPairs 185 = .ok (.aload_n 0, 1) := by decide +kernel
theorem dX11_findPairs_186 : decode cX11_findPairs 186 = .ok (.getfield 190, 3) := by decide +kernel
theorem dX11_findPairs_189 : decode cX11_findPairs 189 = .ok (.bipush 14, 2) := by decide +kernel
theorem dX11_findPairs_191 : decode cX11_findPairs 191 = .ok (.if_icmp .gt 7, 3) := by decide +kernel
theorem dX11_findPairs_194 : decode cX11_findPairs 194 = .ok (.iconst 1, 1) := by decide +kernel
theorem dX11_findPairs_195 : decode cX11_findPairs 195 = .ok (.goto 4, 3) := by decide +kernel
theorem dX11_findPairs_198 : decode cX11_findPairs 198 = .ok (.iconst 0, 1) := by decide +kernel
theorem dX11_findPairs_199 : decode cX11_findPairs 199 = .ok (.ireturn, 1) := by decide +kernel
def f_Model_findPairs_b185  (Q : Int32 → MI → MJ → Prop) (I : MI) (J : MJ) : Prop :=
  (if 14 < (I 177 16) then Q 0 I J else Q 1 I J)
def f_Model_findPairs_b161 (x2 : Int32) (x3 : Int32) (x4 : Int32) (kh : Int32 → MI → MJ → Prop) (I : MI) (J : MJ) : Prop :=
  vp_in ((4 * x2) + x3) 228 ∧ ∀ I172 : MI, I172 = sI I 194 (upd (I 194) ((4 * x2) + x3).toNatClampNeg x4) → ∀ t173 : Int32, t173 = x3 + 1 → kh t173 I172 J
def f_Model_findPairs_L47 (x1 : Int32) (x2 : Int32) (k179 : MI → MJ → Prop) : Nat → Int32 → MI → MJ → Prop
  | 0, _, _, _ => False
  | nf47 + 1, x3, I, J =>
  (if 4 ≤ x3 then k179 I J else vp_in x2 57 ∧ ∀ I59 : MI, I59 = sI I 177 (upd (I 177) 14 (I 191 x2.toNatClampNeg)) → vp_in x2 57 ∧ ∀ I69 : MI, I69 = sI I59 177 (upd (I59 177) 15 (I59 192 x2.toNatClampNeg)) → f_Model_go x1 x3 I69 J (fun r78 I78 J78 => (if r78 = 0 then f_Model_findPairs_b161 x2 x3 (-1) (f_Model_findPairs_L47 x1 x2 k179 nf47) I78 J78 else f_Model_findPair (I78 177 14) (I78 177 15) I78 J78 (fun r93 I93 J93 => (if 0 ≤ r93 then f_Model_findPairs_b161 x2 x3 r93 (f_Model_findPairs_L47 x1 x2 k179 nf47) I93 J93 else ∀ t107 : Int32, t107 = I93 177 16 → vp_in t107 57 ∧ ∀ I119 : MI, I119 = sI I93 191 (upd (I93 191) t107.toNatClampNeg (I93 177 14)) → vp_in t107 57 ∧ ∀ I130 : MI, I130 = sI I119 192 (upd (I119 192) t107.toNatClampNeg (I119 177 15)) → vp_in x2 57 ∧ vp_in t107 57 ∧ ∀ J150 : MJ, J150 = sJ J93 193 (vp_updL (J93 193) t107.toNatClampNeg ((4 * (J93 193 x2.toNatClampNeg)) + x3.toInt64)) → ∀ I158 : MI, I158 = sI I130 177 (upd (I130 177) 16 ((I130 177 16) + 1)) → f_Model_findPairs_b161 x2 x3 t107 (f_Model_findPairs_L47 x1 x2 k179 nf47) I158 J150)))))
def f_Model_findPairs_L28 (x1 : Int32) (k185 : MI → MJ → Prop) : Nat → Int32 → MI → MJ → Prop
  | 0, _, _, _ => False
  | nf28 + 1, x2, I, J =>
  (if (I 177 16) ≤ x2 then k185 I J else (if 14 < (I 177 16) then k185 I J else ∃ n, f_Model_findPairs_L47 x1 x2 (fun (I : MI) (J : MJ) => ∀ t179 : Int32, t179 = x2 + 1 → f_Model_findPairs_L28 x1 k185 nf28 t179 I J) n 0 I J))
def f_Model_findPairs (x1 : Int32) (I : MI) (J : MJ) (Q : Int32 → MI → MJ → Prop) : Prop :=
  vp_in 0 57 ∧ ∀ I6 : MI, I6 = sI I 191 (upd (I 191) (0 : Int32).toNatClampNeg 0) → vp_in 0 57 ∧ ∀ I13 : MI, I13 = sI I6 192 (upd (I6 192) (0 : Int32).toNatClampNeg 0) → vp_in 0 57 ∧ ∀ J20 : MJ, J20 = sJ J 193 (vp_updL (J 193) (0 : Int32).toNatClampNeg 1) → ∀ I23 : MI, I23 = sI I13 177 (upd (I13 177) 16 1) → ∃ n, f_Model_findPairs_L28 x1 (fun (I : MI) (J : MJ) => f_Model_findPairs_b185 Q I J) n 0 I23 J20
set_option maxRecDepth 100000 in
set_option maxHeartbeats 4000000 in
theorem w_Model_findPairs_b185 {Γ : Ctx} {Q : Int32 → MI → MJ → Prop}   (X : Cx Γ cX11_findPairs 5 RX11 2) (Y : Rt Γ (Pi Q) (Option.some Jvm.ClassFile.FieldType.boolean))   {I : MI} {J : MJ} (h : f_Model_findPairs_b185 Q I J) : Wp Γ 5 185 [(0, .ref (ad Γ 177))] [] I J := by
  unfold f_Model_findPairs_b185 at h
  refine wp_aload_n X dX11_findPairs_185 0 rfl ?_
  refine gf_X11_190 X sh_177 dX11_findPairs_186 ?_
  refine wp_bipush X dX11_findPairs_189 bi_14 ?_
  refine wp_icmp_gt (tgt := 198) X dX11_findPairs_191 (by decide) (fun hc => ?_) (fun hc => ?_)
  · have h := ite_t h hc
    refine wp_iconst X dX11_findPairs_198 ic_0 ?_
    exact wp_zret X Y dX11_findPairs_199 (by decide) ⟨_, rfl, h⟩
  · have h := ite_f h hc
    refine wp_iconst X dX11_findPairs_194 ic_1 ?_
    refine wp_goto (tgt := 199) X dX11_findPairs_195 (by decide) ?_
    exact wp_zret X Y dX11_findPairs_199 (by decide) ⟨_, rfl, h⟩

set_option maxRecDepth 100000 in
set_option maxHeartbeats 4000000 in
theorem w_Model_findPairs_b161 {Γ : Ctx} {Q : Int32 → MI → MJ → Prop} {x1 : Int32} {x2 : Int32} {x3 : Int32} {x4 : Int32} {kh : Int32 → MI → MJ → Prop} (X : Cx Γ cX11_findPairs 5 RX11 2) (Y : Rt Γ (Pi Q) (Option.some Jvm.ClassFile.FieldType.boolean))  (hkh : ∀ (x3 : Int32) (I : MI) (J : MJ), kh x3 I J → Wp Γ 5 47 [(0, .ref (ad Γ 177)), (1, .int x1), (2, .int x2), (3, .int x3)] [] I J) {I : MI} {J : MJ} (h : f_Model_findPairs_b161 x2 x3 x4 kh I J) : Wp Γ 5 161 [(0, .ref (ad Γ 177)), (1, .int x1), (2, .int x2), (3, .int x3), (4, .int x4)] [] I J := by
  unfold f_Model_findPairs_b161 at h
  refine wp_aload_n X dX11_findPairs_161 0 rfl ?_
  refine gf_X11_60 (o' := 194) X sh_177 rfl dX11_findPairs_162 ?_
  refine wp_iconst X dX11_findPairs_165 ic_4 ?_
  refine wp_iload_n X dX11_findPairs_166 2 rfl ?_
  refine wp_imul X dX11_findPairs_167 ?_
  refine wp_iload_n X dX11_findPairs_168 3 rfl ?_
  refine wp_iadd X dX11_findPairs_169 ?_
  refine wp_iload X dX11_findPairs_170 4 rfl ?_
  obtain ⟨hb172, h⟩ := h
  refine wp_iast X sh_194 hb172 dX11_findPairs_172 ?_
  refine wp_memI (fun I172 eI172 => ?_)
  have h := h I172 eI172
  obtain ⟨t173, et173⟩ : ∃ y : Int32, y = x3 + 1 := ⟨_, rfl⟩
  have h := h t173 et173
  refine wp_iinc (L' := [(3, .int t173), (0, .ref (ad Γ 177)), (1, .int x1), (2, .int x2), (4, .int x4)]) X dX11_findPairs_173 3 rfl (ii_1 et173) (by decide) rfl ?_
  refine wp_goto (tgt := 47) X dX11_findPairs_176 (by decide) ?_
  refine wp_sub X [1, 2, 3, 0] rfl ?_
  exact hkh _ _ _ h

set_option maxRecDepth 100000 in
set_option maxHeartbeats 4000000 in
theorem w_Model_findPairs_L47 {Γ : Ctx} {Q : Int32 → MI → MJ → Prop} {x1 : Int32} {x2 : Int32} {k179 : MI → MJ → Prop} (X : Cx Γ cX11_findPairs 5 RX11 2) (Y : Rt Γ (Pi Q) (Option.some Jvm.ClassFile.FieldType.boolean))  (hk179 : ∀ (I : MI) (J : MJ), k179 I J → Wp Γ 5 179 [(0, .ref (ad Γ 177)), (1, .int x1), (2, .int x2)] [] I J) : ∀ (n : Nat) (x3 : Int32) (I : MI) (J : MJ), f_Model_findPairs_L47 x1 x2 k179 n x3 I J → Wp Γ 5 47 [(0, .ref (ad Γ 177)), (1, .int x1), (2, .int x2), (3, .int x3)] [] I J := by
  intro n
  induction n with
  | zero => intro x3 I J h; exact absurd h (by simp [f_Model_findPairs_L47])
  | succ n ih =>
  intro x3 I J h
  unfold f_Model_findPairs_L47 at h
  refine wp_iload_n X dX11_findPairs_47 3 rfl ?_
  refine wp_iconst X dX11_findPairs_48 ic_4 ?_
  refine wp_icmp_ge (tgt := 179) X dX11_findPairs_49 (by decide) (fun hc => ?_) (fun hc => ?_)
  · have h := ite_t h hc
    refine wp_sub X [0, 1, 2] rfl ?_
    exact hk179 _ _ h
  · have h := ite_f h hc
    refine wp_aload_n X dX11_findPairs_52 0 rfl ?_
    refine wp_aload_n X dX11_findPairs_53 0 rfl ?_
    refine gf_X11_51 (o' := 191) X sh_177 rfl dX11_findPairs_54 ?_
    refine wp_iload_n X dX11_findPairs_57 2 rfl ?_
    obtain ⟨hb58, h⟩ := h
    refine wp_iald X sh_191 hb58 dX11_findPairs_58 ?_
    refine pf_X11_165 X sh_177 dX11_findPairs_59 (fun I59 eI59 => ?_)
    have h := h I59 eI59
    refine wp_aload_n X dX11_findPairs_62 0 rfl ?_
    refine wp_aload_n X dX11_findPairs_63 0 rfl ?_
    refine gf_X11_54 (o' := 192) X sh_177 rfl dX11_findPairs_64 ?_
    refine wp_iload_n X dX11_findPairs_67 2 rfl ?_
    obtain ⟨hb68, h⟩ := h
    refine wp_iald X sh_192 hb68 dX11_findPairs_68 ?_
    refine pf_X11_172 X sh_177 dX11_findPairs_69 (fun I69 eI69 => ?_)
    have h := h I69 eI69
    refine wp_iconst X dX11_findPairs_72 ic_m1 ?_
    refine wp_istore (L' := [(4, .int (-1)), (0, .ref (ad Γ 177)), (1, .int x1), (2, .int x2), (3, .int x3)]) X dX11_findPairs_73 (by decide) rfl ?_
    refine wp_aload_n X dX11_findPairs_75 1 rfl ?_
    refine wp_iload_n X dX11_findPairs_76 2 rfl ?_
    refine wp_iload_n X dX11_findPairs_77 4 rfl ?_
    refine cv_Model_go X dX11_findPairs_78 ml_X11_179  h (Nat.le_of_ble_eq_true rfl) (by decide) (fun r78 I78 J78 h => ?_)
    refine wp_if_eq (tgt := 161) X dX11_findPairs_81 (by decide) (fun hc => ?_) (fun hc => ?_)
    · have h := ite_t h hc
      refine wp_sub X [1, 2, 3, 4, 0] rfl ?_
      exact w_Model_findPairs_b161 X Y ih h
    · have h := ite_f h hc
      refine wp_aload_n X dX11_findPairs_84 1 rfl ?_
      refine wp_aload_n X dX11_findPairs_85 1 rfl ?_
      refine gf_X11_165 X sh_177 dX11_findPairs_86 ?_
      refine wp_aload_n X dX11_findPairs_89 1 rfl ?_
      refine gf_X11_172 X sh_177 dX11_findPairs_90 ?_
      refine cv_Model_findPair X dX11_findPairs_93 ml_X11_193  h (Nat.le_of_ble_eq_true rfl) (by decide) (fun r93 I93 J93 h => ?_)
      refine wp_istore (L' := [(4, .int r93), (0, .ref (ad Γ 177)), (1, .int x1), (2, .int x2), (3, .int x3)]) X dX11_findPairs_96 (by decide) rfl ?_
      refine wp_iload X dX11_findPairs_98 0 rfl ?_
      refine wp_if_ge (tgt := 161) X dX11_findPairs_100 (by decide) (fun hc => ?_) (fun hc => ?_)
      · have h := ite_t h hc
        refine wp_sub X [1, 2, 3, 4, 0] rfl ?_
        exact w_Model_findPairs_b161 X Y ih h
      · have h := ite_f h hc
        refine wp_aload_n X dX11_findPairs_103 1 rfl ?_
        refine gf_X11_190 X sh_177 dX11_findPairs_104 ?_
        refine wp_topi (fun t107 et107 => ?_)
        have h := h t107 et107
        refine wp_istore (L' := [(4, .int t107), (0, .ref (ad Γ 177)), (1, .int x1), (2, .int x2), (3, .int x3)]) X dX11_findPairs_107 (by decide) rfl ?_
        refine wp_aload_n X dX11_findPairs_109 1 rfl ?_
        refine gf_X11_51 (o' := 191) X sh_177 rfl dX11_findPairs_110 ?_
        refine wp_iload X dX11_findPairs_113 0 rfl ?_
        refine wp_aload_n X dX11_findPairs_115 1 rfl ?_
        refine gf_X11_165 X sh_177 dX11_findPairs_116 ?_
        obtain ⟨hb119, h⟩ := h
        refine wp_iast X sh_191 hb119 dX11_findPairs_119 ?_
        refine wp_memI (fun I119 eI119 => ?_)
        have h := h I119 eI119
        refine wp_aload_n X dX11_findPairs_120 1 rfl ?_
        refine gf_X11_54 (o' := 192) X sh_177 rfl dX11_findPairs_121 ?_
        refine wp_iload X dX11_findPairs_124 0 rfl ?_
        refine wp_aload_n X dX11_findPairs_126 1 rfl ?_
        refine gf_X11_172 X sh_177 dX11_findPairs_127 ?_
        obtain ⟨hb130, h⟩ := h
        refine wp_iast X sh_192 hb130 dX11_findPairs_130 ?_
        refine wp_memI (fun I130 eI130 => ?_)
        have h := h I130 eI130
        refine wp_aload_n X dX11_findPairs_131 1 rfl ?_
        refine gf_X11_57 (o' := 193) X sh_177 rfl dX11_findPairs_132 ?_
        refine wp_iload X dX11_findPairs_135 0 rfl ?_
        refine wp_ldc2 X kl_X11_197 dX11_findPairs_137 ?_
        refine wp_aload_n X dX11_findPairs_140 1 rfl ?_
        refine gf_X11_57 (o' := 193) X sh_177 rfl dX11_findPairs_141 ?_
        refine wp_iload_n X dX11_findPairs_144 3 rfl ?_
        obtain ⟨hb145, h⟩ := h
        refine wp_lald X sh_193 hb145 dX11_findPairs_145 ?_
        refine wp_lmul X dX11_findPairs_146 ?_
        refine wp_iload_n X dX11_findPairs_147 4 rfl ?_
        refine wp_i2l X dX11_findPairs_148 ?_
        refine wp_ladd X dX11_findPairs_149 ?_
        obtain ⟨hb150, h⟩ := h
        refine wp_last X sh_193 hb150 dX11_findPairs_150 ?_
        refine wp_memJ (fun J150 eJ150 => ?_)
        have h := h J150 eJ150
        refine wp_aload_n X dX11_findPairs_151 1 rfl ?_
        refine wp_dup X dX11_findPairs_152 rfl ?_
        refine gf_X11_190 X sh_177 dX11_findPairs_153 ?_
        refine wp_iconst X dX11_findPairs_156 ic_1 ?_
        refine wp_iadd X dX11_findPairs_157 ?_
        refine pf_X11_190 X sh_177 dX11_findPairs_158 (fun I158 eI158 => ?_)
        have h := h I158 eI158
        refine wp_sub X [1, 2, 3, 4, 0] rfl ?_
        exact w_Model_findPairs_b161 X Y ih h

set_option maxRecDepth 100000 in
set_option maxHeartbeats 4000000 in
theorem w_Model_findPairs_L28 {Γ : Ctx} {Q : Int32 → MI → MJ → Prop} {x1 : Int32} {k185 : MI → MJ → Prop} (X : Cx Γ cX11_findPairs 5 RX11 2) (Y : Rt Γ (Pi Q) (Option.some Jvm.ClassFile.FieldType.boolean))  (hk185 : ∀ (I : MI) (J : MJ), k185 I J → Wp Γ 5 185 [(0, .ref (ad Γ 177))] [] I J) : ∀ (n : Nat) (x2 : Int32) (I : MI) (J : MJ), f_Model_findPairs_L28 x1 k185 n x2 I J → Wp Γ 5 28 [(0, .ref (ad Γ 177)), (1, .int x1), (2, .int x2)] [] I J := by
  intro n
  induction n with
  | zero => intro x2 I J h; exact absurd h (by simp [f_Model_findPairs_L28])
  | succ n ih =>
  intro x2 I J h
  unfold f_Model_findPairs_L28 at h
  refine wp_iload_n X dX11_findPairs_28 2 rfl ?_
  refine wp_aload_n X dX11_findPairs_29 0 rfl ?_
  refine gf_X11_190 X sh_177 dX11_findPairs_30 ?_
  refine wp_icmp_ge (tgt := 185) X dX11_findPairs_33 (by decide) (fun hc => ?_) (fun hc => ?_)
  · have h := ite_t h hc
    refine wp_sub X [0] rfl ?_
    exact hk185 _ _ h
  · have h := ite_f h hc
    refine wp_aload_n X dX11_findPairs_36 0 rfl ?_
    refine gf_X11_190 X sh_177 dX11_findPairs_37 ?_
    refine wp_bipush X dX11_findPairs_40 bi_14 ?_
    refine wp_icmp_gt (tgt := 185) X dX11_findPairs_42 (by decide) (fun hc => ?_) (fun hc => ?_)
    · have h := ite_t h hc
      refine wp_sub X [0] rfl ?_
      exact hk185 _ _ h
    · have h := ite_f h hc
      refine wp_iconst X dX11_findPairs_45 ic_0 ?_
      refine wp_istore_n (L' := [(3, .int 0), (0, .ref (ad Γ 177)), (1, .int x1), (2, .int x2)]) X dX11_findPairs_46 rfl (by decide) rfl ?_
      obtain ⟨n, h⟩ := h
      refine wp_sub X [1, 2, 3, 0] rfl ?_
      refine w_Model_findPairs_L47 X Y  ?_ n _ _ _ h
      · intro I J h
        obtain ⟨t179, et179⟩ : ∃ y : Int32, y = x2 + 1 := ⟨_, rfl⟩
        have h := h t179 et179
        refine wp_iinc (L' := [(2, .int t179), (0, .ref (ad Γ 177)), (1, .int x1)]) X dX11_findPairs_179 2 rfl (ii_1 et179) (by decide) rfl ?_
        refine wp_goto (tgt := 28) X dX11_findPairs_182 (by decide) ?_
        refine wp_sub X [1, 2, 0] rfl ?_
        exact ih _ _ _ h

set_option maxRecDepth 100000 in
set_option maxHeartbeats 4000000 in
theorem w_Model_findPairs_b0 {Γ : Ctx} {Q : Int32 → MI → MJ → Prop} {x1 : Int32}  (X : Cx Γ cX11_findPairs 5 RX11 2) (Y : Rt Γ (Pi Q) (Option.some Jvm.ClassFile.FieldType.boolean))   {I : MI} {J : MJ} (h : f_Model_findPairs x1 I J Q) : Wp Γ 5 0 [(0, .ref (ad Γ 177)), (1, .int x1)] [] I J := by
  unfold f_Model_findPairs at h
  refine wp_aload_n X dX11_findPairs_0 0 rfl ?_
  refine gf_X11_51 (o' := 191) X sh_177 rfl dX11_findPairs_1 ?_
  refine wp_iconst X dX11_findPairs_4 ic_0 ?_
  refine wp_iconst X dX11_findPairs_5 ic_0 ?_
  obtain ⟨hb6, h⟩ := h
  refine wp_iast X sh_191 hb6 dX11_findPairs_6 ?_
  refine wp_memI (fun I6 eI6 => ?_)
  have h := h I6 eI6
  refine wp_aload_n X dX11_findPairs_7 0 rfl ?_
  refine gf_X11_54 (o' := 192) X sh_177 rfl dX11_findPairs_8 ?_
  refine wp_iconst X dX11_findPairs_11 ic_0 ?_
  refine wp_iconst X dX11_findPairs_12 ic_0 ?_
  obtain ⟨hb13, h⟩ := h
  refine wp_iast X sh_192 hb13 dX11_findPairs_13 ?_
  refine wp_memI (fun I13 eI13 => ?_)
  have h := h I13 eI13
  refine wp_aload_n X dX11_findPairs_14 0 rfl ?_
  refine gf_X11_57 (o' := 193) X sh_177 rfl dX11_findPairs_15 ?_
  refine wp_iconst X dX11_findPairs_18 ic_0 ?_
  refine wp_lconst X dX11_findPairs_19 lc_1 ?_
  obtain ⟨hb20, h⟩ := h
  refine wp_last X sh_193 hb20 dX11_findPairs_20 ?_
  refine wp_memJ (fun J20 eJ20 => ?_)
  have h := h J20 eJ20
  refine wp_aload_n X dX11_findPairs_21 0 rfl ?_
  refine wp_iconst X dX11_findPairs_22 ic_1 ?_
  refine pf_X11_190 X sh_177 dX11_findPairs_23 (fun I23 eI23 => ?_)
  have h := h I23 eI23
  refine wp_iconst X dX11_findPairs_26 ic_0 ?_
  refine wp_istore_n (L' := [(2, .int 0), (0, .ref (ad Γ 177)), (1, .int x1)]) X dX11_findPairs_27 rfl (by decide) rfl ?_
  obtain ⟨n, h⟩ := h
  refine wp_sub X [1, 2, 0] rfl ?_
  refine w_Model_findPairs_L28 X Y  ?_ n _ _ _ h
  · intro I J h
    exact w_Model_findPairs_b185 X Y  h

theorem c_Model_findPairs {l : Launch} {g : GE} (hg : Inj g) {I : MI} {J : MJ} {Q : Int32 → MI → MJ → Prop} {x1 : Int32}  (h : f_Model_findPairs x1 I J Q) : Cm l g yX11_findPairs cX11_findPairs 5 (Option.some Jvm.ClassFile.FieldType.boolean) 2 [.ref (g.1 177), .int x1] I J (Pi Q) := by
  refine Cm.of (As := fun ad => [.ref (ad 177), .int x1]) hg pn_X11 (Nat.le_of_ble_eq_true rfl) ?_
  exact (fun Γ _ _ X Y => w_Model_findPairs_b0 X Y  h)
theorem cv_Model_findPairs {Γ : Ctx} {cc : ByteArray} {nL d pc index : Nat} {own : String} {L : List (Nat × Value)} {rest : List Value} {I : MI} {J : MJ} {Q : Int32 → MI → MJ → Prop} {x1 : Int32} (X : Cx Γ cc nL own d) (hd : decode cc pc = .ok (.invokevirtual index, 3)) (hlink : Cond.methodLink own index yX11_findPairs ∈ TT)  (h : f_Model_findPairs x1 I J Q) (hrest : (rest.map fun v => v.category).sum ≤ 8) (hdd : 2 + 1 ≤ d) (kk : ∀ (r : Int32) (I' : MI) (J' : MJ), Q r I' J' → Wp Γ nL (pc + 3) L (.int r :: rest) I' J') : Wp Γ nL pc L (.int x1 :: .ref (ad Γ 177) :: rest) I J :=
  wp_callV (As := [.int x1]) (rest := rest) (T := TX11) (N := 62) X hd hlink mv_X11_findPairs sh_177 (by decide) rfl (c_Model_findPairs X.inj  h) rfl rfl hrest hdd (fun v I' J' hv => by obtain ⟨r, rfl, hq⟩ := hv; exact kk r I' J' hq)
theorem dX11_areToldBy_0 : decode cX11_areToldBy 0 = .ok (.aload_n 0, 1) := by decide +kernel
theorem dX11_areToldBy_1 : decode cX11_areToldBy 1 = .ok (.getfield 60, 3) := by decide +kernel
theorem dX11_areToldBy_4 : decode cX11_areToldBy 4 = .ok (.iconst 4, 1) := by decide +kernel
theorem dX11_areToldBy_5 : decode cX11_areToldBy 5 = .ok (.iload_n 1, 1) := by decide +kernel
theorem dX11_areToldBy_6 : decode cX11_areToldBy 6 = .ok (.imul, 1) := by decide +kernel
theorem dX11_areToldBy_7 : decode cX11_areToldBy 7 = .ok (.iload_n 3, 1) := by decide +kernel
theorem dX11_areToldBy_8 : decode cX11_areToldBy 8 = .ok (.iadd, 1) := by decide +kernel
theorem dX11_areToldBy_9 : decode cX11_areToldBy 9 = .ok (.iaload, 1) := by decide +kernel
theorem dX11_areToldBy_10 : decode cX11_areToldBy 10 = .ok (.istore 4, 2) := by decide +kernel
theorem dX11_areToldBy_12 : decode cX11_areToldBy 12 = .ok (.aload_n 0, 1) := by decide +kernel
theorem dX11_areToldBy_13 : decode cX11_areToldBy 13 = .ok (.getfield 60, 3) := by decide +kernel
theorem dX11_areToldBy_16 : decode cX11_areToldBy 16 = .ok (.iconst 4, 1) := by decide +kernel
theorem dX11_areToldBy_17 : decode cX11_areToldBy 17 = .ok (.iload_n 2, 1) := by decide +kernel
theorem dX11_areToldBy_18 : decode cX11_areToldBy 18 = .ok (.imul, 1) := by decide +kernel
theorem dX11_areToldBy_19 : decode cX11_areToldBy 19 = .ok (.iload_n 3, 1) := by decide +kernel
theorem dX11_areToldBy_20 : decode cX11_areToldBy 20 = .ok (.iadd, 1) := by decide +kernel
theorem dX11_areToldBy_21 : decode cX11_areToldBy 21 = .ok (.iaload, 1) := by decide +kernel
theorem dX11_areToldBy_22 : decode cX11_areToldBy 22 = .ok (.istore 5, 2) := by decide +kernel
theorem dX11_areToldBy_24 : decode cX11_areToldBy 24 = .ok (.iload 4, 2) := by decide +kernel
theorem dX11_areToldBy_26 : decode cX11_areToldBy 26 = .ok (.ifCond .ge 7, 3) := by decide +kernel
theorem dX11_areToldBy_29 : decode cX11_areToldBy 29 = .ok (.iconst 1, 1) := by decide +kernel
theorem dX11_areToldBy_30 : decode cX11_areToldBy 30 = .ok (.goto 4, 3) := by decide +kernel
theorem dX11_areToldBy_33 : decode cX11_areToldBy 33 = .ok (.iconst 0, 1) := by decide +kernel
theorem dX11_areToldBy_34 : decode cX11_areToldBy 34 = .ok (.iload 5, 2) := by decide +kernel
theorem dX11_areToldBy_36 : decode cX11_areToldBy 36 = .ok (.ifCond .ge 7, 3) := by decide +kernel
theorem dX11_areToldBy_39 : decode cX11_areToldBy 39 = .ok (.iconst 1, 1) := by decide +kernel
theorem dX11_areToldBy_40 : decode cX11_areToldBy 40 = .ok (.goto 4, 3) := by decide +kernel
theorem dX11_areToldBy_43 : decode cX11_areToldBy 43 = .ok (.iconst 0, 1) := by decide +kernel
theorem dX11_areToldBy_44 : decode cX11_areToldBy 44 = .ok (.if_icmp .ne 24, 3) := by decide +kernel
theorem dX11_areToldBy_47 : decode cX11_areToldBy 47 = .ok (.iload 4, 2) := by decide +kernel
theorem dX11_areToldBy_49 : decode cX11_areToldBy 49 = .ok (.ifCond .lt 23, 3) := by decide +kernel
theorem dX11_areToldBy_52 : decode cX11_areToldBy 52 = .ok (.aload_n 0, 1) := by decide +kernel
theorem dX11_areToldBy_53 : decode cX11_areToldBy 53 = .ok (.getfield 63, 3) := by decide +kernel
theorem dX11_areToldBy_56 : decode cX11_areToldBy 56 = .ok (.bipush 16, 2) := by decide +kernel
theorem dX11_areToldBy_58 : decode cX11_areToldBy 58 = .ok (.iload 4, 2) := by decide +kernel
theorem dX11_areToldBy_60 : decode cX11_areToldBy 60 = .ok (.imul, 1) := by decide +kernel
theorem dX11_areToldBy_61 : decode cX11_areToldBy 61 = .ok (.iload 5, 2) := by decide +kernel
theorem dX11_areToldBy_63 : decode cX11_areToldBy 63 = .ok (.iadd, 1) := by decide +kernel
theorem dX11_areToldBy_64 : decode cX11_areToldBy 64 = .ok (.baload, 1) := by decide +kernel
theorem dX11_areToldBy_65 : decode cX11_areToldBy 65 = .ok (.ifCond .eq 7, 3) := by decide +kernel
theorem dX11_areToldBy_68 : decode cX11_areToldBy 68 = .ok (.iconst 1, 1) := by decide +kernel
theorem dX11_areToldBy_69 : decode cX11_areToldBy 69 = .ok (.goto 4, 3) := by decide +kernel
theorem dX11_areToldBy_72 : decode cX11_areToldBy 72 = .ok (.iconst 0, 1) := by decide +kernel
theorem dX11_areToldBy_73 : decode cX11_areToldBy 73 = .ok (.ireturn, 1) := by decide +kernel
def f_Model_areToldBy_b68  (Q : Int32 → MI → MJ → Prop) (I : MI) (J : MJ) : Prop :=
  Q 1 I J
def f_Model_areToldBy_b44 (x4 : Int32) (x5 : Int32) (s0 : Int32) (s1 : Int32) (Q : Int32 → MI → MJ → Prop) (I : MI) (J : MJ) : Prop :=
  (if s0 = s1 then (if x4 < 0 then Q 0 I J else vp_in ((16 * x4) + x5) 256 ∧ (if (I 195 ((16 * x4) + x5).toNatClampNeg) = 0 then Q 0 I J else f_Model_areToldBy_b68 Q I J)) else f_Model_areToldBy_b68 Q I J)
def f_Model_areToldBy_b34 (x4 : Int32) (x5 : Int32) (s0 : Int32) (Q : Int32 → MI → MJ → Prop) (I : MI) (J : MJ) : Prop :=
  (if 0 ≤ x5 then f_Model_areToldBy_b44 x4 x5 s0 0 Q I J else f_Model_areToldBy_b44 x4 x5 s0 1 Q I J)
def f_Model_areToldBy (x1 : Int32) (x2 : Int32) (x3 : Int32) (I : MI) (J : MJ) (Q : Int32 → MI → MJ → Prop) : Prop :=
  vp_in ((4 * x1) + x3) 228 ∧ ∀ t10 : Int32, t10 = I 194 ((4 * x1) + x3).toNatClampNeg → vp_in ((4 * x2) + x3) 228 ∧ ∀ t22 : Int32, t22 = I 194 ((4 * x2) + x3).toNatClampNeg → (if 0 ≤ t10 then f_Model_areToldBy_b34 t10 t22 0 Q I J else f_Model_areToldBy_b34 t10 t22 1 Q I J)
set_option maxRecDepth 100000 in
set_option maxHeartbeats 4000000 in
theorem w_Model_areToldBy_b68 {Γ : Ctx} {Q : Int32 → MI → MJ → Prop}   (X : Cx Γ cX11_areToldBy 6 RX11 0) (Y : Rt Γ (Pi Q) (Option.some Jvm.ClassFile.FieldType.boolean))   {I : MI} {J : MJ} (h : f_Model_areToldBy_b68 Q I J) : Wp Γ 6 68 [] [] I J := by
  unfold f_Model_areToldBy_b68 at h
  refine wp_iconst X dX11_areToldBy_68 ic_1 ?_
  refine wp_goto (tgt := 73) X dX11_areToldBy_69 (by decide) ?_
  exact wp_zret X Y dX11_areToldBy_73 (by decide) ⟨_, rfl, h⟩

set_option maxRecDepth 100000 in
set_option maxHeartbeats 4000000 in
theorem w_Model_areToldBy_b44 {Γ : Ctx} {Q : Int32 → MI → MJ → Prop} {x4 : Int32} {x5 : Int32} {s0 : Int32} {s1 : Int32}  (X : Cx Γ cX11_areToldBy 6 RX11 0) (Y : Rt Γ (Pi Q) (Option.some Jvm.ClassFile.FieldType.boolean))   {I : MI} {J : MJ} (h : f_Model_areToldBy_b44 x4 x5 s0 s1 Q I J) : Wp Γ 6 44 [(0, .ref (ad Γ 177)), (4, .int x4), (5, .int x5)] [.int s1, .int s0] I J := by
  unfold f_Model_areToldBy_b44 at h
  refine wp_icmp_ne (tgt := 68) X dX11_areToldBy_44 (by decide) (fun hc => ?_) (fun hc => ?_)
  · have h := ite_f h hc
    refine wp_sub X [] rfl ?_
    exact w_Model_areToldBy_b68 X Y  h
  · have h := ite_t h hc
    refine wp_iload X dX11_areToldBy_47 1 rfl ?_
    refine wp_if_lt (tgt := 72) X dX11_areToldBy_49 (by decide) (fun hc => ?_) (fun hc => ?_)
    · have h := ite_t h hc
      refine wp_iconst X dX11_areToldBy_72 ic_0 ?_
      exact wp_zret X Y dX11_areToldBy_73 (by decide) ⟨_, rfl, h⟩
    · have h := ite_f h hc
      refine wp_aload_n X dX11_areToldBy_52 0 rfl ?_
      refine gf_X11_63 (o' := 195) X sh_177 rfl dX11_areToldBy_53 ?_
      refine wp_bipush X dX11_areToldBy_56 bi_16 ?_
      refine wp_iload X dX11_areToldBy_58 1 rfl ?_
      refine wp_imul X dX11_areToldBy_60 ?_
      refine wp_iload X dX11_areToldBy_61 2 rfl ?_
      refine wp_iadd X dX11_areToldBy_63 ?_
      obtain ⟨hb64, h⟩ := h
      refine wp_zald X sh_195 hb64 dX11_areToldBy_64 ?_
      refine wp_if_eq (tgt := 72) X dX11_areToldBy_65 (by decide) (fun hc => ?_) (fun hc => ?_)
      · have h := ite_t h hc
        refine wp_iconst X dX11_areToldBy_72 ic_0 ?_
        exact wp_zret X Y dX11_areToldBy_73 (by decide) ⟨_, rfl, h⟩
      · have h := ite_f h hc
        refine wp_sub X [] rfl ?_
        exact w_Model_areToldBy_b68 X Y  h

set_option maxRecDepth 100000 in
set_option maxHeartbeats 4000000 in
theorem w_Model_areToldBy_b34 {Γ : Ctx} {Q : Int32 → MI → MJ → Prop} {x4 : Int32} {x5 : Int32} {s0 : Int32}  (X : Cx Γ cX11_areToldBy 6 RX11 0) (Y : Rt Γ (Pi Q) (Option.some Jvm.ClassFile.FieldType.boolean))   {I : MI} {J : MJ} (h : f_Model_areToldBy_b34 x4 x5 s0 Q I J) : Wp Γ 6 34 [(0, .ref (ad Γ 177)), (4, .int x4), (5, .int x5)] [.int s0] I J := by
  unfold f_Model_areToldBy_b34 at h
  refine wp_iload X dX11_areToldBy_34 2 rfl ?_
  refine wp_if_ge (tgt := 43) X dX11_areToldBy_36 (by decide) (fun hc => ?_) (fun hc => ?_)
  · have h := ite_t h hc
    refine wp_iconst X dX11_areToldBy_43 ic_0 ?_
    exact w_Model_areToldBy_b44 X Y  h
  · have h := ite_f h hc
    refine wp_iconst X dX11_areToldBy_39 ic_1 ?_
    refine wp_goto (tgt := 44) X dX11_areToldBy_40 (by decide) ?_
    exact w_Model_areToldBy_b44 X Y  h

set_option maxRecDepth 100000 in
set_option maxHeartbeats 4000000 in
theorem w_Model_areToldBy_b0 {Γ : Ctx} {Q : Int32 → MI → MJ → Prop} {x1 : Int32} {x2 : Int32} {x3 : Int32}  (X : Cx Γ cX11_areToldBy 6 RX11 0) (Y : Rt Γ (Pi Q) (Option.some Jvm.ClassFile.FieldType.boolean))   {I : MI} {J : MJ} (h : f_Model_areToldBy x1 x2 x3 I J Q) : Wp Γ 6 0 [(0, .ref (ad Γ 177)), (1, .int x1), (2, .int x2), (3, .int x3)] [] I J := by
  unfold f_Model_areToldBy at h
  refine wp_aload_n X dX11_areToldBy_0 0 rfl ?_
  refine gf_X11_60 (o' := 194) X sh_177 rfl dX11_areToldBy_1 ?_
  refine wp_iconst X dX11_areToldBy_4 ic_4 ?_
  refine wp_iload_n X dX11_areToldBy_5 1 rfl ?_
  refine wp_imul X dX11_areToldBy_6 ?_
  refine wp_iload_n X dX11_areToldBy_7 3 rfl ?_
  refine wp_iadd X dX11_areToldBy_8 ?_
  obtain ⟨hb9, h⟩ := h
  refine wp_iald X sh_194 hb9 dX11_areToldBy_9 ?_
  refine wp_topi (fun t10 et10 => ?_)
  have h := h t10 et10
  refine wp_istore (L' := [(4, .int t10), (0, .ref (ad Γ 177)), (1, .int x1), (2, .int x2), (3, .int x3)]) X dX11_areToldBy_10 (by decide) rfl ?_
  refine wp_aload_n X dX11_areToldBy_12 1 rfl ?_
  refine gf_X11_60 (o' := 194) X sh_177 rfl dX11_areToldBy_13 ?_
  refine wp_iconst X dX11_areToldBy_16 ic_4 ?_
  refine wp_iload_n X dX11_areToldBy_17 3 rfl ?_
  refine wp_imul X dX11_areToldBy_18 ?_
  refine wp_iload_n X dX11_areToldBy_19 4 rfl ?_
  refine wp_iadd X dX11_areToldBy_20 ?_
  obtain ⟨hb21, h⟩ := h
  refine wp_iald X sh_194 hb21 dX11_areToldBy_21 ?_
  refine wp_topi (fun t22 et22 => ?_)
  have h := h t22 et22
  refine wp_istore (L' := [(5, .int t22), (4, .int t10), (0, .ref (ad Γ 177)), (1, .int x1), (2, .int x2), (3, .int x3)]) X dX11_areToldBy_22 (by decide) rfl ?_
  refine wp_iload X dX11_areToldBy_24 1 rfl ?_
  refine wp_if_ge (tgt := 33) X dX11_areToldBy_26 (by decide) (fun hc => ?_) (fun hc => ?_)
  · have h := ite_t h hc
    refine wp_iconst X dX11_areToldBy_33 ic_0 ?_
    refine wp_sub X [2, 1, 0] rfl ?_
    exact w_Model_areToldBy_b34 X Y  h
  · have h := ite_f h hc
    refine wp_iconst X dX11_areToldBy_29 ic_1 ?_
    refine wp_goto (tgt := 34) X dX11_areToldBy_30 (by decide) ?_
    refine wp_sub X [2, 1, 0] rfl ?_
    exact w_Model_areToldBy_b34 X Y  h

theorem c_Model_areToldBy {l : Launch} {g : GE} (hg : Inj g) {I : MI} {J : MJ} {Q : Int32 → MI → MJ → Prop} {x1 : Int32} {x2 : Int32} {x3 : Int32}  (h : f_Model_areToldBy x1 x2 x3 I J Q) : Cm l g yX11_areToldBy cX11_areToldBy 6 (Option.some Jvm.ClassFile.FieldType.boolean) 0 [.ref (g.1 177), .int x1, .int x2, .int x3] I J (Pi Q) := by
  refine Cm.of (As := fun ad => [.ref (ad 177), .int x1, .int x2, .int x3]) hg pn_X11 (Nat.le_of_ble_eq_true rfl) ?_
  exact (fun Γ _ _ X Y => w_Model_areToldBy_b0 X Y  h)
theorem cv_Model_areToldBy {Γ : Ctx} {cc : ByteArray} {nL d pc index : Nat} {own : String} {L : List (Nat × Value)} {rest : List Value} {I : MI} {J : MJ} {Q : Int32 → MI → MJ → Prop} {x1 : Int32} {x2 : Int32} {x3 : Int32} (X : Cx Γ cc nL own d) (hd : decode cc pc = .ok (.invokevirtual index, 3)) (hlink : Cond.methodLink own index yX11_areToldBy ∈ TT)  (h : f_Model_areToldBy x1 x2 x3 I J Q) (hrest : (rest.map fun v => v.category).sum ≤ 8) (hdd : 0 + 1 ≤ d) (kk : ∀ (r : Int32) (I' : MI) (J' : MJ), Q r I' J' → Wp Γ nL (pc + 3) L (.int r :: rest) I' J') : Wp Γ nL pc L (.int x3 :: .int x2 :: .int x1 :: .ref (ad Γ 177) :: rest) I J :=
  wp_callV (As := [.int x1, .int x2, .int x3]) (rest := rest) (T := TX11) (N := 62) X hd hlink mv_X11_areToldBy sh_177 (by decide) rfl (c_Model_areToldBy X.inj  h) rfl rfl hrest hdd (fun v I' J' hv => by obtain ⟨r, rfl, hq⟩ := hv; exact kk r I' J' hq)
theorem dX11_findUnlike_0 : decode cX11_findUnlike 0 = .ok (.iconst 0, 1) := by decide +kernel
theorem dX11_findUnlike_1 : decode cX11_findUnlike 1 = .ok (.istore_n 2, 1) := by decide +kernel
theorem dX11_findUnlike_2 : decode cX11_findUnlike 2 = .ok (.iload_n 2, 1) := by decide +kernel
theorem dX11_findUnlike_3 : decode cX11_findUnlike 3 = .ok (.aload_n 0, 1) := by decide +kernel
theorem dX11_findUnlike_4 : decode cX11_findUnlike 4 = .ok (.getfield 190, 3) := by decide +kernel
theorem dX11_findUnlike_7 : decode cX11_findUnlike 7 = .ok (.if_icmp .ge 76, 3) := by decide +kernel
theorem dX11_findUnlike_10 : decode cX11_findUnlike 10 = .ok (.iconst 0, 1) := by decide +kernel
theorem dX11_findUnlike_11 : decode cX11_findUnlike 11 = .ok (.istore_n 3, 1) := by decide +kernel
theorem dX11_findUnlike_12 : decode cX11_findUnlike 12 = .ok (.iload_n 3, 1) := by decide +kernel
theorem dX11_findUnlike_13 : decode cX11_findUnlike 13 = .ok (.aload_n 0, 1) := by decide +kernel
theorem dX11_findUnlike_14 : decode cX11_findUnlike 14 = .ok (.getfield 190, 3) := by decide +kernel
theorem dX11_findUnlike_17 : decode cX11_findUnlike 17 = .ok (.if_icmp .ge 60, 3) := by decide +kernel
theorem dX11_findUnlike_20 : decode cX11_findUnlike 20 = .ok (.aload_n 0, 1) := by decide +kernel
theorem dX11_findUnlike_21 : decode cX11_findUnlike 21 = .ok (.getfield 63, 3) := by decide +kernel
theorem dX11_findUnlike_24 : decode cX11_findUnlike 24 = .ok (.bipush 16, 2) := by decide +kernel
theorem dX11_findUnlike_26 : decode cX11_findUnlike 26 = .ok (.iload_n 2, 1) := by decide +kernel
theorem dX11_findUnlike_27 : decode cX11_findUnlike 27 = .ok (.imul, 1) := by decide +kernel
theorem dX11_findUnlike_28 : decode cX11_findUnlike 28 = .ok (.iload_n 3, 1) := by decide +kernel
theorem dX11_findUnlike_29 : decode cX11_findUnlike 29 = .ok (.iadd, 1) := by decide +kernel
theorem dX11_findUnlike_30 : decode cX11_findUnlike 30 = .ok (.aload_n 0, 1) := by decide +kernel
theorem dX11_findUnlike_31 : decode cX11_findUnlike 31 = .ok (.getfield 39, 3) := by decide +kernel
theorem dX11_findUnlike_34 : decode cX11_findUnlike 34 = .ok (.bipush 14, 2) := by decide +kernel
theorem dX11_findUnlike_36 : decode cX11_findUnlike 36 = .ok (.iload_n 1, 1) := by decide +kernel
theorem dX11_findUnlike_37 : decode cX11_findUnlike 37 = .ok (.imul, 1) := by decide +kernel
theorem dX11_findUnlike_38 : decode cX11_findUnlike 38 = .ok (.aload_n 0, 1) := by decide +kernel
theorem dX11_findUnlike_39 : decode cX11_findUnlike 39 = .ok (.getfield 51, 3) := by decide +kernel
theorem dX11_findUnlike_42 : decode cX11_findUnlike 42 = .ok (.iload_n 2, 1) := by decide +kernel
theorem dX11_findUnlike_43 : decode cX11_findUnlike 43 = .ok (.iaload, 1) := by decide +kernel
theorem dX11_findUnlike_44 : decode cX11_findUnlike 44 = .ok (.iadd, 1) := by decide +kernel
theorem dX11_findUnlike_45 : decode cX11_findUnlike 45 = .ok (.iaload, 1) := by decide +kernel
theorem dX11_findUnlike_46 : decode cX11_findUnlike 46 = .ok (.aload_n 0, 1) := by decide +kernel
theorem dX11_findUnlike_47 : decode cX11_findUnlike 47 = .ok (.getfield 39, 3) := by decide +kernel
theorem dX11_findUnlike_50 : decode cX11_findUnlike 50 = .ok (.bipush 14, 2) := by decide +kernel
theorem dX11_findUnlike_52 : decode cX11_findUnlike 52 = .ok (.iload_n 1, 1) := by decide +kernel
theorem dX11_findUnlike_53 : decode cX11_findUnlike 53 = .ok (.imul, 1) := by decide +kernel
theorem dX11_findUnlike_54 : decode cX11_findUnlike 54 = .ok (.aload_n 0, 1) := by decide +kernel
theorem dX11_findUnlike_55 : decode cX11_findUnlike 55 = .ok (.getfield 51, 3) := by decide +kernel
theorem dX11_findUnlike_58 : decode cX11_findUnlike 58 = .ok (.iload_n 3, 1) := by decide +kernel
theorem dX11_findUnlike_59 : decode cX11_findUnlike 59 = .ok (.iaload, 1) := by decide +kernel
theorem dX11_findUnlike_60 : decode cX11_findUnlike 60 = .ok (.iadd, 1) := by decide +kernel
theorem dX11_findUnlike_61 : decode cX11_findUnlike 61 = .ok (.iaload, 1) := by decide +kernel
theorem dX11_findUnlike_62 : decode cX11_findUnlike 62 = .ok (.if_icmp .eq 7, 3) := by decide +kernel
theorem dX11_findUnlike_65 : decode cX11_findUnlike 65 = .ok (.iconst 1, 1) := by decide +kernel
theorem dX11_findUnlike_66 : decode cX11_findUnlike 66 = .ok (.goto 4, 3) := by decide +kernel
theorem dX11_findUnlike_69 : decode cX11_findUnlike 69 = .ok (.iconst 0, 1) := by decide +kernel
theorem dX11_findUnlike_70 : decode cX11_findUnlike 70 = .ok (.bastore, 1) := by decide +kernel
theorem dX11_findUnlike_71 : decode cX11_findUnlike 71 = .ok (.iinc 3 1, 3) := by decide +kernel
theorem dX11_findUnlike_74 : decode cX11_findUnlike 74 = .ok (.goto (-62), 3) := by decide +kernel
theorem dX11_findUnlike_77 : decode cX11_findUnlike 77 = .ok (.iinc 2 1, 3) := by decide +kernel
theorem dX11_findUnlike_80 : decode cX11_findUnlike 80 = .ok (.goto (-78), 3) := by decide +kernel
theorem dX11_findUnlike_83 : decode cX11_findUnlike 83 = .ok (.iconst 1, 1) := by decide +kernel
theorem dX11_findUnlike_84 : decode cX11_findUnlike 84 = .ok (.istore_n 2, 1) := by decide +kernel
theorem dX11_findUnlike_85 : decode cX11_findUnlike 85 = .ok (.iconst 0, 1) := by decide +kernel
theorem dX11_findUnlike_86 : decode cX11_findUnlike 86 = .ok (.istore_n 3, 1) := by decide +kernel
theorem dX11_findUnlike_87 : decode cX11_findUnlike 87 = .ok (.iload_n 2, 1) := by decide +kernel
theorem dX11_findUnlike_88 : decode cX11_findUnlike 88 = .ok (.ifCond .eq 144, 3) := by decide +kernel
theorem dX11_findUnlike_91 : decode cX11_findUnlike 91 = .ok (.iload_n 3, 1) := by decide +kernel
theorem dX11_findUnlike_92 : decode cX11_findUnlike 92 = .ok (.sipush 256, 3) := by decide +kernel
theorem dX11_findUnlike_95 : decode cX11_findUnlike 95 = .ok (.if_icmp .ge 137, 3) := by decide +kernel
theorem dX11_findUnlike_98 : decode cX11_findUnlike 98 = .ok (.iconst 0, 1) := by decide +kernel
theorem dX11_findUnlike_99 : decode cX11_findUnlike 99 = .ok (.istore_n 2, 1) := by decide +kernel
theorem dX11_findUnlike_100 : decode cX11_findUnlike 100 = .ok (.iconst 0, 1) := by decide +kernel
theorem dX11_findUnlike_101 : decode cX11_findUnlike 101 = .ok (.istore 4, 2) := by decide +kernel
theorem dX11_findUnlike_103 : decode cX11_findUnlike 103 = .ok (.iload 4, 2) := by decide +kernel
theorem dX11_findUnlike_105 : decode cX11_findUnlike 105 = .ok (.aload_n 0, 1) := by decide +kernel
theorem dX11_findUnlike_106 : decode cX11_findUnlike 106 = .ok (.getfield 190, 3) := by decide +kernel
theorem dX11_findUnlike_109 : decode cX11_findUnlike 109 = .ok (.if_icmp .ge 117, 3) := by decide +kernel
theorem dX11_findUnlike_112 : decode cX11_findUnlike 112 = .ok (.iconst 0, 1) := by decide +kernel
theorem dX11_findUnlike_113 : decode cX11_findUnlike 113 = .ok (.istore 5, 2) := by decide +kernel
theorem dX11_findUnlike_115 : decode cX11_findUnlike 115 = .ok (.iload 5, 2) := by decide +kernel
theorem dX11_findUnlike_117 : decode cX11_findUnlike 117 = .ok (.aload_n 0, 1) := by decide +kernel
theorem dX11_findUnlike_118 : decode cX11_findUnlike 118 = .ok (.getfield 190, 3) := by decide +kernel
theorem dX11_findUnlike_121 : decode cX11_findUnlike 121 = .ok (.if_icmp .ge 99, 3) := by decide +kernel
theorem dX11_findUnlike_124 : decode cX11_findUnlike 124 = .ok (.aload_n 0, 1) := by decide +kernel
theorem dX11_findUnlike_125 : decode cX11_findUnlike 125 = .ok (.getfield 63, 3) := by decide +kernel
theorem dX11_findUnlike_128 : decode cX11_findUnlike 128 = .ok (.bipush 16, 2) := by decide +kernel
theorem dX11_findUnlike_130 : decode cX11_findUnlike 130 = .ok (.iload 4, 2) := by decide +kernel
theorem dX11_findUnlike_132 : decode cX11_findUnlike 132 = .ok (.imul, 1) := by decide +kernel
theorem dX11_findUnlike_133 : decode cX11_findUnlike 133 = .ok (.iload 5, 2) := by decide +kernel
theorem dX11_findUnlike_135 : decode cX11_findUnlike 135 = .ok (.iadd, 1) := by decide +kernel
theorem dX11_findUnlike_136 : decode cX11_findUnlike 136 = .ok (.baload, 1) := by decide +kernel
theorem dX11_findUnlike_137 : decode cX11_findUnlike 137 = .ok (.istore 6, 2) := by decide +kernel
theorem dX11_findUnlike_139 : decode cX11_findUnlike 139 = .ok (.iconst 0, 1) := by decide +kernel
theorem dX11_findUnlike_140 : decode cX11_findUnlike 140 = .ok (.istore 7, 2) := by decide +kernel
theorem dX11_findUnlike_142 : decode cX11_findUnlike 142 = .ok (.iload 7, 2) := by decide +kernel
theorem dX11_findUnlike_144 : decode cX11_findUnlike 144 = .ok (.iconst 4, 1) := by decide +kernel
theorem dX11_findUnlike_145 : decode cX11_findUnlike 145 = .ok (.if_icmp .ge 26, 3) := by decide +kernel
theorem dX11_findUnlike_148 : decode cX11_findUnlike 148 = .ok (.iload 6, 2) := by decide +kernel
theorem dX11_findUnlike_150 : decode cX11_findUnlike 150 = .ok (.ifCond .ne 21, 3) := by decide +kernel
theorem dX11_findUnlike_153 : decode cX11_findUnlike 153 = .ok (.aload_n 0, 1) := by decide +kernel
theorem dX11_findUnlike_154 : decode cX11_findUnlike 154 = .ok (.iload 4, 2) := by decide +kernel
theorem dX11_findUnlike_156 : decode cX11_findUnlike 156 = .ok (.iload 5, 2) := by decide +kernel
theorem dX11_findUnlike_158 : decode cX11_findUnlike 158 = .ok (.iload 7, 2) := by decide +kernel
theorem dX11_findUnlike_160 : decode cX11_findUnlike 160 = .ok (.invokevirtual 202, 3) := by decide +kernel
theorem dX11_findUnlike_163 : decode cX11_findUnlike 163 = .ok (.istore 6, 2) := by decide +kernel
theorem dX11_findUnlike_165 : decode cX11_findUnlike 165 = .ok (.iinc 7 1, 3) := by decide +kernel
theorem dX11_findUnlike_168 : decode cX11_findUnlike 168 = .ok (.goto (-26), 3) := by decide +kernel
theorem dX11_findUnlike_171 : decode cX11_findUnlike 171 = .ok (.iload_n 2, 1) := by decide +kernel
theorem dX11_findUnlike_172 : decode cX11_findUnlike 172 = .ok (.ifCond .ne 21, 3) := by decide +kernel
theorem dX11_findUnlike_175 : decode cX11_findUnlike 175 = .ok (.iload 6, 2) := by decide +kernel
theorem dX11_findUnlike_177 : decode cX11_findUnlike 177 = .ok (.aload_n 0, 1) := by decide +kernel
theorem dX11_findUnlike_178 : decode cX11_findUnlike 178 = .ok (.getfield 63, 3) := by decide +kernel
theorem dX11_findUnlike_181 : decode cX11_findUnlike 181 = .ok (.bipush 16, 2) := by decide +kernel
theorem dX11_findUnlike_183 : decode cX11_findUnlike 183 = .ok (.iload 4, 2) := by decide +kernel
theorem dX11_findUnlike_185 : decode cX11_findUnlike 185 = .ok (.imul, 1) := by decide +kernel
theorem dX11_findUnlike_186 : decode cX11_findUnlike 186 = .ok (.iload 5, 2) := by decide +kernel
theorem dX11_findUnlike_188 : decode cX11_findUnlike 188 = .ok (.iadd, 1) := by decide +kernel
theorem dX11_findUnlike_189 : decode cX11_findUnlike 189 = .ok (.baload, 1) := by decide +kernel
theorem dX11_findUnlike_190 : decode cX11_findUnlike 190 = .ok (.if_icmp .eq 7, 3) := by decide +kernel
theorem dX11_findUnlike_193 : decode cX11_findUnlike 193 = .ok (.iconst 1, 1) := by decide +kernel
theorem dX11_findUnlike_194 : decode cX11_findUnlike 194 = .ok (.goto 4, 3) := by decide +kernel
theorem dX11_findUnlike_197 : decode cX11_findUnlike 197 = .ok (.iconst 0, 1) := by decide +kernel
theorem dX11_findUnlike_198 : decode cX11_findUnlike 198 = .ok (.istore_n 2, 1) := by decide +kernel
theorem dX11_findUnlike_199 : decode cX11_findUnlike 199 = .ok (.aload_n 0, 1) := by decide +kernel
theorem dX11_findUnlike_200 : decode cX11_findUnlike 200 = .ok (.getfield 63, 3) := by decide +kernel
theorem dX11_findUnlike_203 : decode cX11_findUnlike 203 = .ok (.bipush 16, 2) := by decide +kernel
theorem dX11_findUnlike_205 : decode cX11_findUnlike 205 = .ok (.iload 4, 2) := by decide +kernel
theorem dX11_findUnlike_207 : decode cX11_findUnlike 207 = .ok (.imul, 1) := by decide +kernel
theorem dX11_findUnlike_208 : decode cX11_findUnlike 208 = .ok (.iload 5, 2) := by decide +kernel
theorem dX11_findUnlike_210 : decode cX11_findUnlike 210 = .ok (.iadd, 1) := by decide +kernel
theorem dX11_findUnlike_211 : decode cX11_findUnlike 211 = .ok (.iload 6, 2) := by decide +kernel
theorem dX11_findUnlike_213 : decode cX11_findUnlike 213 = .ok (.bastore, 1) := by decide +kernel
theorem dX11_findUnlike_214 : decode cX11_findUnlike 214 = .ok (.iinc 5 1, 3) := by decide +kernel
theorem dX11_findUnlike_217 : decode cX11_findUnlike 217 = .ok (.goto (-102), 3) := by decide +kernel
theorem dX11_findUnlike_220 : decode cX11_findUnlike 220 = .ok (.iinc 4 1, 3) := by decide +kernel
theorem dX11_findUnlike_223 : decode cX11_findUnlike 223 = .ok (.goto (-120), 3) := by decide +kernel
theorem dX11_findUnlike_226 : decode cX11_findUnlike 226 = .ok (.iinc 3 1, 3) := by decide +kernel
theorem dX11_findUnlike_229 : decode cX11_findUnlike 229 = .ok (.goto (-142), 3) := by decide +kernel
theorem dX11_findUnlike_232 : decode cX11_findUnlike 232 = .ok (.return_, 1) := by decide +kernel
def f_Model_findUnlike_b198 (x4 : Int32) (x5 : Int32) (x6 : Int32) (s0 : Int32) (kh : Int32 → Int32 → MI → MJ → Prop) (I : MI) (J : MJ) : Prop :=
  vp_in ((16 * x4) + x5) 256 ∧ ∀ I213 : MI, I213 = sI I 195 (upd (I 195) ((16 * x4) + x5).toNatClampNeg (vp_nar .boolean x6)) → ∀ t214 : Int32, t214 = x5 + 1 → kh s0 t214 I213 J
def f_Model_findUnlike_b193 (x4 : Int32) (x5 : Int32) (x6 : Int32) (kh : Int32 → Int32 → MI → MJ → Prop) (I : MI) (J : MJ) : Prop :=
  f_Model_findUnlike_b198 x4 x5 x6 1 kh I J
def f_Model_findUnlike_b171 (x2 : Int32) (x4 : Int32) (x5 : Int32) (x6 : Int32) (kh : Int32 → Int32 → MI → MJ → Prop) (I : MI) (J : MJ) : Prop :=
  (if x2 = 0 then vp_in ((16 * x4) + x5) 256 ∧ (if x6 = (I 195 ((16 * x4) + x5).toNatClampNeg) then f_Model_findUnlike_b198 x4 x5 x6 0 kh I J else f_Model_findUnlike_b193 x4 x5 x6 kh I J) else f_Model_findUnlike_b193 x4 x5 x6 kh I J)
def f_Model_findUnlike_L142 (x4 : Int32) (x5 : Int32) (k171 : Int32 → MI → MJ → Prop) : Nat → Int32 → Int32 → MI → MJ → Prop
  | 0, _, _, _, _ => False
  | nf142 + 1, x6, x7, I, J =>
  (if 4 ≤ x7 then k171 x6 I J else (if x6 = 0 then f_Model_areToldBy x4 x5 x7 I J (fun r160 I160 J160 => ∀ t165 : Int32, t165 = x7 + 1 → f_Model_findUnlike_L142 x4 x5 k171 nf142 r160 t165 I160 J160) else k171 x6 I J))
def f_Model_findUnlike_L115 (x4 : Int32) (k220 : Int32 → MI → MJ → Prop) : Nat → Int32 → Int32 → MI → MJ → Prop
  | 0, _, _, _, _ => False
  | nf115 + 1, x2, x5, I, J =>
  (if (I 177 16) ≤ x5 then k220 x2 I J else vp_in ((16 * x4) + x5) 256 ∧ ∀ t137 : Int32, t137 = I 195 ((16 * x4) + x5).toNatClampNeg → ∃ n, f_Model_findUnlike_L142 x4 x5 (fun (z171_x6 : Int32) (I : MI) (J : MJ) => f_Model_findUnlike_b171 x2 x4 x5 z171_x6 (f_Model_findUnlike_L115 x4 k220 nf115) I J) n t137 0 I J)
def f_Model_findUnlike_L103 (k226 : Int32 → MI → MJ → Prop) : Nat → Int32 → Int32 → MI → MJ → Prop
  | 0, _, _, _, _ => False
  | nf103 + 1, x2, x4, I, J =>
  (if (I 177 16) ≤ x4 then k226 x2 I J else ∃ n, f_Model_findUnlike_L115 x4 (fun (z220_x2 : Int32) (I : MI) (J : MJ) => ∀ t220 : Int32, t220 = x4 + 1 → f_Model_findUnlike_L103 k226 nf103 z220_x2 t220 I J) n x2 0 I J)
def f_Model_findUnlike_L87 (k232 : MI → MJ → Prop) : Nat → Int32 → Int32 → MI → MJ → Prop
  | 0, _, _, _, _ => False
  | nf87 + 1, x2, x3, I, J =>
  (if x2 = 0 then k232 I J else (if 256 ≤ x3 then k232 I J else ∃ n, f_Model_findUnlike_L103 (fun (z226_x2 : Int32) (I : MI) (J : MJ) => ∀ t226 : Int32, t226 = x3 + 1 → f_Model_findUnlike_L87 k232 nf87 z226_x2 t226 I J) n 0 0 I J))
def f_Model_findUnlike_b70 (x3 : Int32) (s1 : Int32) (s2 : Int32) (kh : Int32 → MI → MJ → Prop) (I : MI) (J : MJ) : Prop :=
  vp_in s1 256 ∧ ∀ I70 : MI, I70 = sI I 195 (upd (I 195) s1.toNatClampNeg (vp_nar .boolean s2)) → ∀ t71 : Int32, t71 = x3 + 1 → kh t71 I70 J
def f_Model_findUnlike_L12 (x1 : Int32) (x2 : Int32) (k77 : MI → MJ → Prop) : Nat → Int32 → MI → MJ → Prop
  | 0, _, _, _ => False
  | nf12 + 1, x3, I, J =>
  (if (I 177 16) ≤ x3 then k77 I J else vp_in x2 57 ∧ vp_in ((14 * x1) + (I 191 x2.toNatClampNeg)) 280 ∧ vp_in x3 57 ∧ vp_in ((14 * x1) + (I 191 x3.toNatClampNeg)) 280 ∧ (if (I 187 ((14 * x1) + (I 191 x2.toNatClampNeg)).toNatClampNeg) = (I 187 ((14 * x1) + (I 191 x3.toNatClampNeg)).toNatClampNeg) then f_Model_findUnlike_b70 x3 ((16 * x2) + x3) 0 (f_Model_findUnlike_L12 x1 x2 k77 nf12) I J else f_Model_findUnlike_b70 x3 ((16 * x2) + x3) 1 (f_Model_findUnlike_L12 x1 x2 k77 nf12) I J))
def f_Model_findUnlike_L2 (x1 : Int32) (k83 : MI → MJ → Prop) : Nat → Int32 → MI → MJ → Prop
  | 0, _, _, _ => False
  | nf2 + 1, x2, I, J =>
  (if (I 177 16) ≤ x2 then k83 I J else ∃ n, f_Model_findUnlike_L12 x1 x2 (fun (I : MI) (J : MJ) => ∀ t77 : Int32, t77 = x2 + 1 → f_Model_findUnlike_L2 x1 k83 nf2 t77 I J) n 0 I J)
def f_Model_findUnlike (x1 : Int32) (I : MI) (J : MJ) (Q : MI → MJ → Prop) : Prop :=
  ∃ n, f_Model_findUnlike_L2 x1 (fun (I : MI) (J : MJ) => ∃ n, f_Model_findUnlike_L87 (fun (I : MI) (J : MJ) => Q I J) n 1 0 I J) n 0 I J
set_option maxRecDepth 100000 in
set_option maxHeartbeats 4000000 in
theorem w_Model_findUnlike_b198 {Γ : Ctx} {Q : MI → MJ → Prop} {x3 : Int32} {x4 : Int32} {x5 : Int32} {x6 : Int32} {s0 : Int32} {kh : Int32 → Int32 → MI → MJ → Prop} (X : Cx Γ cX11_findUnlike 8 RX11 1) (Y : Rt Γ (Pv Q) (Option.none : Option Jvm.ClassFile.FieldType))  (hkh : ∀ (x2 : Int32) (x5 : Int32) (I : MI) (J : MJ), kh x2 x5 I J → Wp Γ 8 115 [(0, .ref (ad Γ 177)), (2, .int x2), (3, .int x3), (4, .int x4), (5, .int x5)] [] I J) {I : MI} {J : MJ} (h : f_Model_findUnlike_b198 x4 x5 x6 s0 kh I J) : Wp Γ 8 198 [(0, .ref (ad Γ 177)), (3, .int x3), (4, .int x4), (5, .int x5), (6, .int x6)] [.int s0] I J := by
  unfold f_Model_findUnlike_b198 at h
  refine wp_istore_n (L' := [(2, .int s0), (0, .ref (ad Γ 177)), (3, .int x3), (4, .int x4), (5, .int x5), (6, .int x6)]) X dX11_findUnlike_198 rfl (by decide) rfl ?_
  refine wp_aload_n X dX11_findUnlike_199 1 rfl ?_
  refine gf_X11_63 (o' := 195) X sh_177 rfl dX11_findUnlike_200 ?_
  refine wp_bipush X dX11_findUnlike_203 bi_16 ?_
  refine wp_iload X dX11_findUnlike_205 3 rfl ?_
  refine wp_imul X dX11_findUnlike_207 ?_
  refine wp_iload X dX11_findUnlike_208 4 rfl ?_
  refine wp_iadd X dX11_findUnlike_210 ?_
  refine wp_iload X dX11_findUnlike_211 5 rfl ?_
  obtain ⟨hb213, h⟩ := h
  refine wp_zast X sh_195 hb213 dX11_findUnlike_213 ?_
  refine wp_memI (fun I213 eI213 => ?_)
  have h := h I213 eI213
  obtain ⟨t214, et214⟩ : ∃ y : Int32, y = x5 + 1 := ⟨_, rfl⟩
  have h := h t214 et214
  refine wp_iinc (L' := [(5, .int t214), (2, .int s0), (0, .ref (ad Γ 177)), (3, .int x3), (4, .int x4), (6, .int x6)]) X dX11_findUnlike_214 4 rfl (ii_1 et214) (by decide) rfl ?_
  refine wp_goto (tgt := 115) X dX11_findUnlike_217 (by decide) ?_
  refine wp_sub X [2, 1, 3, 4, 0] rfl ?_
  exact hkh _ _ _ _ h

set_option maxRecDepth 100000 in
set_option maxHeartbeats 4000000 in
theorem w_Model_findUnlike_b193 {Γ : Ctx} {Q : MI → MJ → Prop} {x3 : Int32} {x4 : Int32} {x5 : Int32} {x6 : Int32} {kh : Int32 → Int32 → MI → MJ → Prop} (X : Cx Γ cX11_findUnlike 8 RX11 1) (Y : Rt Γ (Pv Q) (Option.none : Option Jvm.ClassFile.FieldType))  (hkh : ∀ (x2 : Int32) (x5 : Int32) (I : MI) (J : MJ), kh x2 x5 I J → Wp Γ 8 115 [(0, .ref (ad Γ 177)), (2, .int x2), (3, .int x3), (4, .int x4), (5, .int x5)] [] I J) {I : MI} {J : MJ} (h : f_Model_findUnlike_b193 x4 x5 x6 kh I J) : Wp Γ 8 193 [(0, .ref (ad Γ 177)), (3, .int x3), (4, .int x4), (5, .int x5), (6, .int x6)] [] I J := by
  unfold f_Model_findUnlike_b193 at h
  refine wp_iconst X dX11_findUnlike_193 ic_1 ?_
  refine wp_goto (tgt := 198) X dX11_findUnlike_194 (by decide) ?_
  exact w_Model_findUnlike_b198 X Y hkh h

set_option maxRecDepth 100000 in
set_option maxHeartbeats 4000000 in
theorem w_Model_findUnlike_b171 {Γ : Ctx} {Q : MI → MJ → Prop} {x2 : Int32} {x3 : Int32} {x4 : Int32} {x5 : Int32} {x6 : Int32} {kh : Int32 → Int32 → MI → MJ → Prop} (X : Cx Γ cX11_findUnlike 8 RX11 1) (Y : Rt Γ (Pv Q) (Option.none : Option Jvm.ClassFile.FieldType))  (hkh : ∀ (x2 : Int32) (x5 : Int32) (I : MI) (J : MJ), kh x2 x5 I J → Wp Γ 8 115 [(0, .ref (ad Γ 177)), (2, .int x2), (3, .int x3), (4, .int x4), (5, .int x5)] [] I J) {I : MI} {J : MJ} (h : f_Model_findUnlike_b171 x2 x4 x5 x6 kh I J) : Wp Γ 8 171 [(0, .ref (ad Γ 177)), (2, .int x2), (3, .int x3), (4, .int x4), (5, .int x5), (6, .int x6)] [] I J := by
  unfold f_Model_findUnlike_b171 at h
  refine wp_iload_n X dX11_findUnlike_171 1 rfl ?_
  refine wp_if_ne (tgt := 193) X dX11_findUnlike_172 (by decide) (fun hc => ?_) (fun hc => ?_)
  · have h := ite_f h hc
    refine wp_sub X [0, 2, 3, 4, 5] rfl ?_
    exact w_Model_findUnlike_b193 X Y hkh h
  · have h := ite_t h hc
    refine wp_iload X dX11_findUnlike_175 5 rfl ?_
    refine wp_aload_n X dX11_findUnlike_177 0 rfl ?_
    refine gf_X11_63 (o' := 195) X sh_177 rfl dX11_findUnlike_178 ?_
    refine wp_bipush X dX11_findUnlike_181 bi_16 ?_
    refine wp_iload X dX11_findUnlike_183 3 rfl ?_
    refine wp_imul X dX11_findUnlike_185 ?_
    refine wp_iload X dX11_findUnlike_186 4 rfl ?_
    refine wp_iadd X dX11_findUnlike_188 ?_
    obtain ⟨hb189, h⟩ := h
    refine wp_zald X sh_195 hb189 dX11_findUnlike_189 ?_
    refine wp_icmp_eq (tgt := 197) X dX11_findUnlike_190 (by decide) (fun hc => ?_) (fun hc => ?_)
    · have h := ite_t h hc
      refine wp_iconst X dX11_findUnlike_197 ic_0 ?_
      refine wp_sub X [0, 2, 3, 4, 5] rfl ?_
      exact w_Model_findUnlike_b198 X Y hkh h
    · have h := ite_f h hc
      refine wp_sub X [0, 2, 3, 4, 5] rfl ?_
      exact w_Model_findUnlike_b193 X Y hkh h

set_option maxRecDepth 100000 in
set_option maxHeartbeats 4000000 in
theorem w_Model_findUnlike_L142 {Γ : Ctx} {Q : MI → MJ → Prop} {x2 : Int32} {x3 : Int32} {x4 : Int32} {x5 : Int32} {k171 : Int32 → MI → MJ → Prop} (X : Cx Γ cX11_findUnlike 8 RX11 1) (Y : Rt Γ (Pv Q) (Option.none : Option Jvm.ClassFile.FieldType))  (hk171 : ∀ (x6 : Int32) (I : MI) (J : MJ), k171 x6 I J → Wp Γ 8 171 [(0, .ref (ad Γ 177)), (2, .int x2), (3, .int x3), (4, .int x4), (5, .int x5), (6, .int x6)] [] I J) : ∀ (n : Nat) (x6 : Int32) (x7 : Int32) (I : MI) (J : MJ), f_Model_findUnlike_L142 x4 x5 k171 n x6 x7 I J → Wp Γ 8 142 [(0, .ref (ad Γ 177)), (2, .int x2), (3, .int x3), (4, .int x4), (5, .int x5), (6, .int x6), (7, .int x7)] [] I J := by
  intro n
  induction n with
  | zero => intro x6 x7 I J h; exact absurd h (by simp [f_Model_findUnlike_L142])
  | succ n ih =>
  intro x6 x7 I J h
  unfold f_Model_findUnlike_L142 at h
  refine wp_iload X dX11_findUnlike_142 6 rfl ?_
  refine wp_iconst X dX11_findUnlike_144 ic_4 ?_
  refine wp_icmp_ge (tgt := 171) X dX11_findUnlike_145 (by decide) (fun hc => ?_) (fun hc => ?_)
  · have h := ite_t h hc
    refine wp_sub X [0, 1, 2, 3, 4, 5] rfl ?_
    exact hk171 _ _ _ h
  · have h := ite_f h hc
    refine wp_iload X dX11_findUnlike_148 5 rfl ?_
    refine wp_if_ne (tgt := 171) X dX11_findUnlike_150 (by decide) (fun hc => ?_) (fun hc => ?_)
    · have h := ite_f h hc
      refine wp_sub X [0, 1, 2, 3, 4, 5] rfl ?_
      exact hk171 _ _ _ h
    · have h := ite_t h hc
      refine wp_aload_n X dX11_findUnlike_153 0 rfl ?_
      refine wp_iload X dX11_findUnlike_154 3 rfl ?_
      refine wp_iload X dX11_findUnlike_156 4 rfl ?_
      refine wp_iload X dX11_findUnlike_158 6 rfl ?_
      refine cv_Model_areToldBy X dX11_findUnlike_160 ml_X11_202  h (Nat.le_of_ble_eq_true rfl) (by decide) (fun r160 I160 J160 h => ?_)
      refine wp_istore (L' := [(6, .int r160), (0, .ref (ad Γ 177)), (2, .int x2), (3, .int x3), (4, .int x4), (5, .int x5), (7, .int x7)]) X dX11_findUnlike_163 (by decide) rfl ?_
      obtain ⟨t165, et165⟩ : ∃ y : Int32, y = x7 + 1 := ⟨_, rfl⟩
      have h := h t165 et165
      refine wp_iinc (L' := [(7, .int t165), (6, .int r160), (0, .ref (ad Γ 177)), (2, .int x2), (3, .int x3), (4, .int x4), (5, .int x5)]) X dX11_findUnlike_165 6 rfl (ii_1 et165) (by decide) rfl ?_
      refine wp_goto (tgt := 142) X dX11_findUnlike_168 (by decide) ?_
      refine wp_sub X [2, 3, 4, 5, 6, 1, 0] rfl ?_
      exact ih _ _ _ _ h

set_option maxRecDepth 100000 in
set_option maxHeartbeats 4000000 in
theorem w_Model_findUnlike_L115 {Γ : Ctx} {Q : MI → MJ → Prop} {x3 : Int32} {x4 : Int32} {k220 : Int32 → MI → MJ → Prop} (X : Cx Γ cX11_findUnlike 8 RX11 1) (Y : Rt Γ (Pv Q) (Option.none : Option Jvm.ClassFile.FieldType))  (hk220 : ∀ (x2 : Int32) (I : MI) (J : MJ), k220 x2 I J → Wp Γ 8 220 [(0, .ref (ad Γ 177)), (2, .int x2), (3, .int x3), (4, .int x4)] [] I J) : ∀ (n : Nat) (x2 : Int32) (x5 : Int32) (I : MI) (J : MJ), f_Model_findUnlike_L115 x4 k220 n x2 x5 I J → Wp Γ 8 115 [(0, .ref (ad Γ 177)), (2, .int x2), (3, .int x3), (4, .int x4), (5, .int x5)] [] I J := by
  intro n
  induction n with
  | zero => intro x2 x5 I J h; exact absurd h (by simp [f_Model_findUnlike_L115])
  | succ n ih =>
  intro x2 x5 I J h
  unfold f_Model_findUnlike_L115 at h
  refine wp_iload X dX11_findUnlike_115 4 rfl ?_
  refine wp_aload_n X dX11_findUnlike_117 0 rfl ?_
  refine gf_X11_190 X sh_177 dX11_findUnlike_118 ?_
  refine wp_icmp_ge (tgt := 220) X dX11_findUnlike_121 (by decide) (fun hc => ?_) (fun hc => ?_)
  · have h := ite_t h hc
    refine wp_sub X [0, 1, 2, 3] rfl ?_
    exact hk220 _ _ _ h
  · have h := ite_f h hc
    refine wp_aload_n X dX11_findUnlike_124 0 rfl ?_
    refine gf_X11_63 (o' := 195) X sh_177 rfl dX11_findUnlike_125 ?_
    refine wp_bipush X dX11_findUnlike_128 bi_16 ?_
    refine wp_iload X dX11_findUnlike_130 3 rfl ?_
    refine wp_imul X dX11_findUnlike_132 ?_
    refine wp_iload X dX11_findUnlike_133 4 rfl ?_
    refine wp_iadd X dX11_findUnlike_135 ?_
    obtain ⟨hb136, h⟩ := h
    refine wp_zald X sh_195 hb136 dX11_findUnlike_136 ?_
    refine wp_topi (fun t137 et137 => ?_)
    have h := h t137 et137
    refine wp_istore (L' := [(6, .int t137), (0, .ref (ad Γ 177)), (2, .int x2), (3, .int x3), (4, .int x4), (5, .int x5)]) X dX11_findUnlike_137 (by decide) rfl ?_
    refine wp_iconst X dX11_findUnlike_139 ic_0 ?_
    refine wp_istore (L' := [(7, .int 0), (6, .int t137), (0, .ref (ad Γ 177)), (2, .int x2), (3, .int x3), (4, .int x4), (5, .int x5)]) X dX11_findUnlike_140 (by decide) rfl ?_
    obtain ⟨n, h⟩ := h
    refine wp_sub X [2, 3, 4, 5, 6, 1, 0] rfl ?_
    refine w_Model_findUnlike_L142 X Y  ?_ n _ _ _ _ h
    · intro z171_x6 I J h
      exact w_Model_findUnlike_b171 X Y ih h

set_option maxRecDepth 100000 in
set_option maxHeartbeats 4000000 in
theorem w_Model_findUnlike_L103 {Γ : Ctx} {Q : MI → MJ → Prop} {x3 : Int32} {k226 : Int32 → MI → MJ → Prop} (X : Cx Γ cX11_findUnlike 8 RX11 1) (Y : Rt Γ (Pv Q) (Option.none : Option Jvm.ClassFile.FieldType))  (hk226 : ∀ (x2 : Int32) (I : MI) (J : MJ), k226 x2 I J → Wp Γ 8 226 [(0, .ref (ad Γ 177)), (2, .int x2), (3, .int x3)] [] I J) : ∀ (n : Nat) (x2 : Int32) (x4 : Int32) (I : MI) (J : MJ), f_Model_findUnlike_L103 k226 n x2 x4 I J → Wp Γ 8 103 [(0, .ref (ad Γ 177)), (2, .int x2), (3, .int x3), (4, .int x4)] [] I J := by
  intro n
  induction n with
  | zero => intro x2 x4 I J h; exact absurd h (by simp [f_Model_findUnlike_L103])
  | succ n ih =>
  intro x2 x4 I J h
  unfold f_Model_findUnlike_L103 at h
  refine wp_iload X dX11_findUnlike_103 3 rfl ?_
  refine wp_aload_n X dX11_findUnlike_105 0 rfl ?_
  refine gf_X11_190 X sh_177 dX11_findUnlike_106 ?_
  refine wp_icmp_ge (tgt := 226) X dX11_findUnlike_109 (by decide) (fun hc => ?_) (fun hc => ?_)
  · have h := ite_t h hc
    refine wp_sub X [0, 1, 2] rfl ?_
    exact hk226 _ _ _ h
  · have h := ite_f h hc
    refine wp_iconst X dX11_findUnlike_112 ic_0 ?_
    refine wp_istore (L' := [(5, .int 0), (0, .ref (ad Γ 177)), (2, .int x2), (3, .int x3), (4, .int x4)]) X dX11_findUnlike_113 (by decide) rfl ?_
    obtain ⟨n, h⟩ := h
    refine wp_sub X [1, 2, 3, 4, 0] rfl ?_
    refine w_Model_findUnlike_L115 X Y  ?_ n _ _ _ _ h
    · intro z220_x2 I J h
      obtain ⟨t220, et220⟩ : ∃ y : Int32, y = x4 + 1 := ⟨_, rfl⟩
      have h := h t220 et220
      refine wp_iinc (L' := [(4, .int t220), (0, .ref (ad Γ 177)), (2, .int z220_x2), (3, .int x3)]) X dX11_findUnlike_220 3 rfl (ii_1 et220) (by decide) rfl ?_
      refine wp_goto (tgt := 103) X dX11_findUnlike_223 (by decide) ?_
      refine wp_sub X [1, 2, 3, 0] rfl ?_
      exact ih _ _ _ _ h

set_option maxRecDepth 100000 in
set_option maxHeartbeats 4000000 in
theorem w_Model_findUnlike_L87 {Γ : Ctx} {Q : MI → MJ → Prop}  {k232 : MI → MJ → Prop} (X : Cx Γ cX11_findUnlike 8 RX11 1) (Y : Rt Γ (Pv Q) (Option.none : Option Jvm.ClassFile.FieldType))  (hk232 : ∀ (I : MI) (J : MJ), k232 I J → Wp Γ 8 232 [] [] I J) : ∀ (n : Nat) (x2 : Int32) (x3 : Int32) (I : MI) (J : MJ), f_Model_findUnlike_L87 k232 n x2 x3 I J → Wp Γ 8 87 [(0, .ref (ad Γ 177)), (2, .int x2), (3, .int x3)] [] I J := by
  intro n
  induction n with
  | zero => intro x2 x3 I J h; exact absurd h (by simp [f_Model_findUnlike_L87])
  | succ n ih =>
  intro x2 x3 I J h
  unfold f_Model_findUnlike_L87 at h
  refine wp_iload_n X dX11_findUnlike_87 1 rfl ?_
  refine wp_if_eq (tgt := 232) X dX11_findUnlike_88 (by decide) (fun hc => ?_) (fun hc => ?_)
  · have h := ite_t h hc
    refine wp_sub X [] rfl ?_
    exact hk232 _ _ h
  · have h := ite_f h hc
    refine wp_iload_n X dX11_findUnlike_91 2 rfl ?_
    refine wp_sipush X dX11_findUnlike_92 si_256 ?_
    refine wp_icmp_ge (tgt := 232) X dX11_findUnlike_95 (by decide) (fun hc => ?_) (fun hc => ?_)
    · have h := ite_t h hc
      refine wp_sub X [] rfl ?_
      exact hk232 _ _ h
    · have h := ite_f h hc
      refine wp_iconst X dX11_findUnlike_98 ic_0 ?_
      refine wp_istore_n (L' := [(2, .int 0), (0, .ref (ad Γ 177)), (3, .int x3)]) X dX11_findUnlike_99 rfl (by decide) rfl ?_
      refine wp_iconst X dX11_findUnlike_100 ic_0 ?_
      refine wp_istore (L' := [(4, .int 0), (2, .int 0), (0, .ref (ad Γ 177)), (3, .int x3)]) X dX11_findUnlike_101 (by decide) rfl ?_
      obtain ⟨n, h⟩ := h
      refine wp_sub X [2, 1, 3, 0] rfl ?_
      refine w_Model_findUnlike_L103 X Y  ?_ n _ _ _ _ h
      · intro z226_x2 I J h
        obtain ⟨t226, et226⟩ : ∃ y : Int32, y = x3 + 1 := ⟨_, rfl⟩
        have h := h t226 et226
        refine wp_iinc (L' := [(3, .int t226), (0, .ref (ad Γ 177)), (2, .int z226_x2)]) X dX11_findUnlike_226 2 rfl (ii_1 et226) (by decide) rfl ?_
        refine wp_goto (tgt := 87) X dX11_findUnlike_229 (by decide) ?_
        refine wp_sub X [1, 2, 0] rfl ?_
        exact ih _ _ _ _ h

set_option maxRecDepth 100000 in
set_option maxHeartbeats 4000000 in
theorem w_Model_findUnlike_b70 {Γ : Ctx} {Q : MI → MJ → Prop} {x1 : Int32} {x2 : Int32} {x3 : Int32} {s1 : Int32} {s2 : Int32} {kh : Int32 → MI → MJ → Prop} (X : Cx Γ cX11_findUnlike 8 RX11 1) (Y : Rt Γ (Pv Q) (Option.none : Option Jvm.ClassFile.FieldType))  (hkh : ∀ (x3 : Int32) (I : MI) (J : MJ), kh x3 I J → Wp Γ 8 12 [(0, .ref (ad Γ 177)), (1, .int x1), (2, .int x2), (3, .int x3)] [] I J) {I : MI} {J : MJ} (h : f_Model_findUnlike_b70 x3 s1 s2 kh I J) : Wp Γ 8 70 [(0, .ref (ad Γ 177)), (1, .int x1), (2, .int x2), (3, .int x3)] [.int s2, .int s1, .ref (ad Γ 195)] I J := by
  unfold f_Model_findUnlike_b70 at h
  obtain ⟨hb70, h⟩ := h
  refine wp_zast X sh_195 hb70 dX11_findUnlike_70 ?_
  refine wp_memI (fun I70 eI70 => ?_)
  have h := h I70 eI70
  obtain ⟨t71, et71⟩ : ∃ y : Int32, y = x3 + 1 := ⟨_, rfl⟩
  have h := h t71 et71
  refine wp_iinc (L' := [(3, .int t71), (0, .ref (ad Γ 177)), (1, .int x1), (2, .int x2)]) X dX11_findUnlike_71 3 rfl (ii_1 et71) (by decide) rfl ?_
  refine wp_goto (tgt := 12) X dX11_findUnlike_74 (by decide) ?_
  refine wp_sub X [1, 2, 3, 0] rfl ?_
  exact hkh _ _ _ h

set_option maxRecDepth 100000 in
set_option maxHeartbeats 4000000 in
theorem w_Model_findUnlike_L12 {Γ : Ctx} {Q : MI → MJ → Prop} {x1 : Int32} {x2 : Int32} {k77 : MI → MJ → Prop} (X : Cx Γ cX11_findUnlike 8 RX11 1) (Y : Rt Γ (Pv Q) (Option.none : Option Jvm.ClassFile.FieldType))  (hk77 : ∀ (I : MI) (J : MJ), k77 I J → Wp Γ 8 77 [(0, .ref (ad Γ 177)), (1, .int x1), (2, .int x2)] [] I J) : ∀ (n : Nat) (x3 : Int32) (I : MI) (J : MJ), f_Model_findUnlike_L12 x1 x2 k77 n x3 I J → Wp Γ 8 12 [(0, .ref (ad Γ 177)), (1, .int x1), (2, .int x2), (3, .int x3)] [] I J := by
  intro n
  induction n with
  | zero => intro x3 I J h; exact absurd h (by simp [f_Model_findUnlike_L12])
  | succ n ih =>
  intro x3 I J h
  unfold f_Model_findUnlike_L12 at h
  refine wp_iload_n X dX11_findUnlike_12 3 rfl ?_
  refine wp_aload_n X dX11_findUnlike_13 0 rfl ?_
  refine gf_X11_190 X sh_177 dX11_findUnlike_14 ?_
  refine wp_icmp_ge (tgt := 77) X dX11_findUnlike_17 (by decide) (fun hc => ?_) (fun hc => ?_)
  · have h := ite_t h hc
    refine wp_sub X [0, 1, 2] rfl ?_
    exact hk77 _ _ h
  · have h := ite_f h hc
    refine wp_aload_n X dX11_findUnlike_20 0 rfl ?_
    refine gf_X11_63 (o' := 195) X sh_177 rfl dX11_findUnlike_21 ?_
    refine wp_bipush X dX11_findUnlike_24 bi_16 ?_
    refine wp_iload_n X dX11_findUnlike_26 2 rfl ?_
    refine wp_imul X dX11_findUnlike_27 ?_
    refine wp_iload_n X dX11_findUnlike_28 3 rfl ?_
    refine wp_iadd X dX11_findUnlike_29 ?_
    refine wp_aload_n X dX11_findUnlike_30 0 rfl ?_
    refine gf_X11_39 (o' := 187) X sh_177 rfl dX11_findUnlike_31 ?_
    refine wp_bipush X dX11_findUnlike_34 bi_14 ?_
    refine wp_iload_n X dX11_findUnlike_36 1 rfl ?_
    refine wp_imul X dX11_findUnlike_37 ?_
    refine wp_aload_n X dX11_findUnlike_38 0 rfl ?_
    refine gf_X11_51 (o' := 191) X sh_177 rfl dX11_findUnlike_39 ?_
    refine wp_iload_n X dX11_findUnlike_42 2 rfl ?_
    obtain ⟨hb43, h⟩ := h
    refine wp_iald X sh_191 hb43 dX11_findUnlike_43 ?_
    refine wp_iadd X dX11_findUnlike_44 ?_
    obtain ⟨hb45, h⟩ := h
    refine wp_iald X sh_187 hb45 dX11_findUnlike_45 ?_
    refine wp_aload_n X dX11_findUnlike_46 0 rfl ?_
    refine gf_X11_39 (o' := 187) X sh_177 rfl dX11_findUnlike_47 ?_
    refine wp_bipush X dX11_findUnlike_50 bi_14 ?_
    refine wp_iload_n X dX11_findUnlike_52 1 rfl ?_
    refine wp_imul X dX11_findUnlike_53 ?_
    refine wp_aload_n X dX11_findUnlike_54 0 rfl ?_
    refine gf_X11_51 (o' := 191) X sh_177 rfl dX11_findUnlike_55 ?_
    refine wp_iload_n X dX11_findUnlike_58 3 rfl ?_
    obtain ⟨hb59, h⟩ := h
    refine wp_iald X sh_191 hb59 dX11_findUnlike_59 ?_
    refine wp_iadd X dX11_findUnlike_60 ?_
    obtain ⟨hb61, h⟩ := h
    refine wp_iald X sh_187 hb61 dX11_findUnlike_61 ?_
    refine wp_icmp_eq (tgt := 69) X dX11_findUnlike_62 (by decide) (fun hc => ?_) (fun hc => ?_)
    · have h := ite_t h hc
      refine wp_iconst X dX11_findUnlike_69 ic_0 ?_
      exact w_Model_findUnlike_b70 X Y ih h
    · have h := ite_f h hc
      refine wp_iconst X dX11_findUnlike_65 ic_1 ?_
      refine wp_goto (tgt := 70) X dX11_findUnlike_66 (by decide) ?_
      exact w_Model_findUnlike_b70 X Y ih h

set_option maxRecDepth 100000 in
set_option maxHeartbeats 4000000 in
theorem w_Model_findUnlike_L2 {Γ : Ctx} {Q : MI → MJ → Prop} {x1 : Int32} {k83 : MI → MJ → Prop} (X : Cx Γ cX11_findUnlike 8 RX11 1) (Y : Rt Γ (Pv Q) (Option.none : Option Jvm.ClassFile.FieldType))  (hk83 : ∀ (I : MI) (J : MJ), k83 I J → Wp Γ 8 83 [(0, .ref (ad Γ 177))] [] I J) : ∀ (n : Nat) (x2 : Int32) (I : MI) (J : MJ), f_Model_findUnlike_L2 x1 k83 n x2 I J → Wp Γ 8 2 [(0, .ref (ad Γ 177)), (1, .int x1), (2, .int x2)] [] I J := by
  intro n
  induction n with
  | zero => intro x2 I J h; exact absurd h (by simp [f_Model_findUnlike_L2])
  | succ n ih =>
  intro x2 I J h
  unfold f_Model_findUnlike_L2 at h
  refine wp_iload_n X dX11_findUnlike_2 2 rfl ?_
  refine wp_aload_n X dX11_findUnlike_3 0 rfl ?_
  refine gf_X11_190 X sh_177 dX11_findUnlike_4 ?_
  refine wp_icmp_ge (tgt := 83) X dX11_findUnlike_7 (by decide) (fun hc => ?_) (fun hc => ?_)
  · have h := ite_t h hc
    refine wp_sub X [0] rfl ?_
    exact hk83 _ _ h
  · have h := ite_f h hc
    refine wp_iconst X dX11_findUnlike_10 ic_0 ?_
    refine wp_istore_n (L' := [(3, .int 0), (0, .ref (ad Γ 177)), (1, .int x1), (2, .int x2)]) X dX11_findUnlike_11 rfl (by decide) rfl ?_
    obtain ⟨n, h⟩ := h
    refine wp_sub X [1, 2, 3, 0] rfl ?_
    refine w_Model_findUnlike_L12 X Y  ?_ n _ _ _ h
    · intro I J h
      obtain ⟨t77, et77⟩ : ∃ y : Int32, y = x2 + 1 := ⟨_, rfl⟩
      have h := h t77 et77
      refine wp_iinc (L' := [(2, .int t77), (0, .ref (ad Γ 177)), (1, .int x1)]) X dX11_findUnlike_77 2 rfl (ii_1 et77) (by decide) rfl ?_
      refine wp_goto (tgt := 2) X dX11_findUnlike_80 (by decide) ?_
      refine wp_sub X [1, 2, 0] rfl ?_
      exact ih _ _ _ h

set_option maxRecDepth 100000 in
set_option maxHeartbeats 4000000 in
theorem w_Model_findUnlike_b0 {Γ : Ctx} {Q : MI → MJ → Prop} {x1 : Int32}  (X : Cx Γ cX11_findUnlike 8 RX11 1) (Y : Rt Γ (Pv Q) (Option.none : Option Jvm.ClassFile.FieldType))   {I : MI} {J : MJ} (h : f_Model_findUnlike x1 I J Q) : Wp Γ 8 0 [(0, .ref (ad Γ 177)), (1, .int x1)] [] I J := by
  unfold f_Model_findUnlike at h
  refine wp_iconst X dX11_findUnlike_0 ic_0 ?_
  refine wp_istore_n (L' := [(2, .int 0), (0, .ref (ad Γ 177)), (1, .int x1)]) X dX11_findUnlike_1 rfl (by decide) rfl ?_
  obtain ⟨n, h⟩ := h
  refine wp_sub X [1, 2, 0] rfl ?_
  refine w_Model_findUnlike_L2 X Y  ?_ n _ _ _ h
  · intro I J h
    refine wp_iconst X dX11_findUnlike_83 ic_1 ?_
    refine wp_istore_n (L' := [(2, .int 1), (0, .ref (ad Γ 177))]) X dX11_findUnlike_84 rfl (by decide) rfl ?_
    refine wp_iconst X dX11_findUnlike_85 ic_0 ?_
    refine wp_istore_n (L' := [(3, .int 0), (2, .int 1), (0, .ref (ad Γ 177))]) X dX11_findUnlike_86 rfl (by decide) rfl ?_
    obtain ⟨n, h⟩ := h
    refine wp_sub X [2, 1, 0] rfl ?_
    refine w_Model_findUnlike_L87 X Y  ?_ n _ _ _ _ h
    · intro I J h
      exact wp_vret X Y dX11_findUnlike_232 ⟨rfl, h⟩

theorem c_Model_findUnlike {l : Launch} {g : GE} (hg : Inj g) {I : MI} {J : MJ} {Q : MI → MJ → Prop} {x1 : Int32}  (h : f_Model_findUnlike x1 I J Q) : Cm l g yX11_findUnlike cX11_findUnlike 8 (Option.none : Option Jvm.ClassFile.FieldType) 1 [.ref (g.1 177), .int x1] I J (Pv Q) := by
  refine Cm.of (As := fun ad => [.ref (ad 177), .int x1]) hg pn_X11 (Nat.le_of_ble_eq_true rfl) ?_
  exact (fun Γ _ _ X Y => w_Model_findUnlike_b0 X Y  h)
theorem cv_Model_findUnlike {Γ : Ctx} {cc : ByteArray} {nL d pc index : Nat} {own : String} {L : List (Nat × Value)} {rest : List Value} {I : MI} {J : MJ} {Q : MI → MJ → Prop} {x1 : Int32} (X : Cx Γ cc nL own d) (hd : decode cc pc = .ok (.invokevirtual index, 3)) (hlink : Cond.methodLink own index yX11_findUnlike ∈ TT)  (h : f_Model_findUnlike x1 I J Q) (hrest : (rest.map fun v => v.category).sum ≤ 8) (hdd : 1 + 1 ≤ d) (kk : ∀ (I' : MI) (J' : MJ), Q I' J' → Wp Γ nL (pc + 3) L rest I' J') : Wp Γ nL pc L (.int x1 :: .ref (ad Γ 177) :: rest) I J :=
  wp_callV (As := [.int x1]) (rest := rest) (T := TX11) (N := 62) X hd hlink mv_X11_findUnlike sh_177 (by decide) rfl (c_Model_findUnlike X.inj  h) rfl rfl hrest hdd (fun v I' J' hv => by obtain ⟨rfl, hq⟩ := hv; exact kk I' J' hq)
theorem dX11_name_0 : decode cX11_name 0 = .ok (.iconst 1, 1) := by decide +kernel
theorem dX11_name_1 : decode cX11_name 1 = .ok (.istore_n 2, 1) := by decide +kernel
theorem dX11_name_2 : decode cX11_name 2 = .ok (.iconst 1, 1) := by decide +kernel
theorem dX11_name_3 : decode cX11_name 3 = .ok (.istore_n 3, 1) := by decide +kernel
theorem dX11_name_4 : decode cX11_name 4 = .ok (.iconst 0, 1) := by decide +kernel
theorem dX11_name_5 : decode cX11_name 5 = .ok (.istore 4, 2) := by decide +kernel
theorem dX11_name_7 : decode cX11_name 7 = .ok (.iload 4, 2) := by decide +kernel
theorem dX11_name_9 : decode cX11_name 9 = .ok (.aload_n 0, 1) := by decide +kernel
theorem dX11_name_10 : decode cX11_name 10 = .ok (.getfield 33, 3) := by decide +kernel
theorem dX11_name_13 : decode cX11_name 13 = .ok (.iload_n 1, 1) := by decide +kernel
theorem dX11_name_14 : decode cX11_name 14 = .ok (.iaload, 1) := by decide +kernel
theorem dX11_name_15 : decode cX11_name 15 = .ok (.if_icmp .ge 99, 3) := by decide +kernel
theorem dX11_name_18 : decode cX11_name 18 = .ok (.aload_n 0, 1) := by decide +kernel
theorem dX11_name_19 : decode cX11_name 19 = .ok (.getfield 42, 3) := by decide +kernel
theorem dX11_name_22 : decode cX11_name 22 = .ok (.bipush 14, 2) := by decide +kernel
theorem dX11_name_24 : decode cX11_name 24 = .ok (.iload_n 1, 1) := by decide +kernel
theorem dX11_name_25 : decode cX11_name 25 = .ok (.imul, 1) := by decide +kernel
theorem dX11_name_26 : decode cX11_name 26 = .ok (.iload 4, 2) := by decide +kernel
theorem dX11_name_28 : decode cX11_name 28 = .ok (.iadd, 1) := by decide +kernel
theorem dX11_name_29 : decode cX11_name 29 = .ok (.aload_n 0, 1) := by decide +kernel
theorem dX11_name_30 : decode cX11_name 30 = .ok (.getfield 36, 3) := by decide +kernel
theorem dX11_name_33 : decode cX11_name 33 = .ok (.iload_n 1, 1) := by decide +kernel
theorem dX11_name_34 : decode cX11_name 34 = .ok (.iaload, 1) := by decide +kernel
theorem dX11_name_35 : decode cX11_name 35 = .ok (.iastore, 1) := by decide +kernel
theorem dX11_name_36 : decode cX11_name 36 = .ok (.iload_n 3, 1) := by decide +kernel
theorem dX11_name_37 : decode cX11_name 37 = .ok (.ifCond .eq 23, 3) := by decide +kernel
theorem dX11_name_40 : decode cX11_name 40 = .ok (.aload_n 0, 1) := by decide +kernel
theorem dX11_name_41 : decode cX11_name 41 = .ok (.getfield 39, 3) := by decide +kernel
theorem dX11_name_44 : decode cX11_name 44 = .ok (.bipush 14, 2) := by decide +kernel
theorem dX11_name_46 : decode cX11_name 46 = .ok (.iload_n 1, 1) := by decide +kernel
theorem dX11_name_47 : decode cX11_name 47 = .ok (.imul, 1) := by decide +kernel
theorem dX11_name_48 : decode cX11_name 48 = .ok (.iload 4, 2) := by decide +kernel
theorem dX11_name_50 : decode cX11_name 50 = .ok (.iadd, 1) := by decide +kernel
theorem dX11_name_51 : decode cX11_name 51 = .ok (.iaload, 1) := by decide +kernel
theorem dX11_name_52 : decode cX11_name 52 = .ok (.iconst 2, 1) := by decide +kernel
theorem dX11_name_53 : decode cX11_name 53 = .ok (.if_icmp .ge 7, 3) := by decide +kernel
theorem dX11_name_56 : decode cX11_name 56 = .ok (.iconst 1, 1) := by decide +kernel
theorem dX11_name_57 : decode cX11_name 57 = .ok (.goto 4, 3) := by decide +kernel
theorem dX11_name_60 : decode cX11_name 60 = .ok (.iconst 0, 1) := by decide +kernel
theorem dX11_name_61 : decode cX11_name 61 = .ok (.istore_n 3, 1) := by decide +kernel
theorem dX11_name_62 : decode cX11_name 62 = .ok (.iconst 0, 1) := by decide +kernel
theorem dX11_name_63 : decode cX11_name 63 = .ok (.istore 5, 2) := by decide +kernel
theorem dX11_name_65 : decode cX11_name 65 = .ok (.iload 5, 2) := by decide +kernel
theorem dX11_name_67 : decode cX11_name 67 = .ok (.aload_n 0, 1) := by decide +kernel
theorem dX11_name_68 : decode cX11_name 68 = .ok (.getfield 36, 3) := by decide +kernel
theorem dX11_name_71 : decode cX11_name 71 = .ok (.iload_n 1, 1) := by decide +kernel
theorem dX11_name_72 : decode cX11_name 72 = .ok (.iaload, 1) := by decide +kernel
theorem dX11_name_73 : decode cX11_name 73 = .ok (.if_icmp .ge 35, 3) := by decide +kernel
theorem dX11_name_76 : decode cX11_name 76 = .ok (.iload_n 2, 1) := by decide +kernel
theorem dX11_name_77 : decode cX11_name 77 = .ok (.ifCond .eq 23, 3) := by decide +kernel
theorem dX11_name_80 : decode cX11_name 80 = .ok (.aload_n 0, 1) := by decide +kernel
theorem dX11_name_81 : decode cX11_name 81 = .ok (.getfield 45, 3) := by decide +kernel
theorem dX11_name_84 : decode cX11_name 84 = .ok (.iload_n 1, 1) := by decide +kernel
theorem dX11_name_85 : decode cX11_name 85 = .ok (.iload 4, 2) := by decide +kernel
theorem dX11_name_87 : decode cX11_name 87 = .ok (.iload 5, 2) := by decide +kernel
theorem dX11_name_89 : decode cX11_name 89 = .ok (.invokestatic 149, 3) := by decide +kernel
theorem dX11_name_92 : decode cX11_name 92 = .ok (.iaload, 1) := by decide +kernel
theorem dX11_name_93 : decode cX11_name 93 = .ok (.ifCond .lt 7, 3) := by decide +kernel
theorem dX11_name_96 : decode cX11_name 96 = .ok (.iconst 1, 1) := by decide +kernel
theorem dX11_name_97 : decode cX11_name 97 = .ok (.goto 4, 3) := by decide +kernel
theorem dX11_name_100 : decode cX11_name 100 = .ok (.iconst 0, 1) := by decide +kernel
theorem dX11_name_101 : decode cX11_name 101 = .ok (.istore_n 2, 1) := by decide +kernel
theorem dX11_name_102 : decode cX11_name 102 = .ok (.iinc 5 1, 3) := by decide +kernel
theorem dX11_name_105 : decode cX11_name 105 = .ok (.goto (-40), 3) := by decide +kernel
theorem dX11_name_108 : decode cX11_name 108 = .ok (.iinc 4 1, 3) := by decide +kernel
theorem dX11_name_111 : decode cX11_name 111 = .ok (.goto (-104), 3) := by decide +kernel
theorem dX11_name_114 : decode cX11_name 114 = .ok (.aload_n 0, 1) := by decide +kernel
theorem dX11_name_115 : decode cX11_name 115 = .ok (.getfield 30, 3) := by decide +kernel
theorem dX11_name_118 : decode cX11_name 118 = .ok (.iload_n 1, 1) := by decide +kernel
theorem dX11_name_119 : decode cX11_name 119 = .ok (.iload_n 2, 1) := by decide +kernel
theorem dX11_name_120 : decode cX11_name 120 = .ok (.ifCond .ne 7, 3) := by decide +kernel
theorem dX11_name_123 : decode cX11_name 123 = .ok (.iconst 2, 1) := by decide +kernel
theorem dX11_name_124 : decode cX11_name 124 = .ok (.goto 12, 3) := by decide +kernel
theorem dX11_name_127 : decode cX11_name 127 = .ok (.iload_n 3, 1) := by decide +kernel
theorem dX11_name_128 : decode cX11_name 128 = .ok (.ifCond .eq 7, 3) := by decide +kernel
theorem dX11_name_131 : decode cX11_name 131 = .ok (.iconst 0, 1) := by decide +kernel
theorem dX11_name_132 : decode cX11_name 132 = .ok (.goto 4, 3) := by decide +kernel
theorem dX11_name_135 : decode cX11_name 135 = .ok (.iconst 1, 1) := by decide +kernel
theorem dX11_name_136 : decode cX11_name 136 = .ok (.iastore, 1) := by decide +kernel
theorem dX11_name_137 : decode cX11_name 137 = .ok (.return_, 1) := by decide +kernel
def f_Model_name_b136 (s1 : Int32) (s2 : Int32) (Q : MI → MJ → Prop) (I : MI) (J : MJ) : Prop :=
  vp_in s1 20 ∧ ∀ I136 : MI, I136 = sI I 184 (upd (I 184) s1.toNatClampNeg s2) → Q I136 J
def f_Model_name_b101 (x5 : Int32) (s0 : Int32) (kh : Int32 → Int32 → MI → MJ → Prop) (I : MI) (J : MJ) : Prop :=
  ∀ t102 : Int32, t102 = x5 + 1 → kh s0 t102 I J
def f_Model_name_b100 (x5 : Int32) (kh : Int32 → Int32 → MI → MJ → Prop) (I : MI) (J : MJ) : Prop :=
  f_Model_name_b101 x5 0 kh I J
def f_Model_name_L65 (x1 : Int32) (x4 : Int32) (k108 : Int32 → MI → MJ → Prop) : Nat → Int32 → Int32 → MI → MJ → Prop
  | 0, _, _, _, _ => False
  | nf65 + 1, x2, x5, I, J =>
  vp_in x1 20 ∧ (if (I 186 x1.toNatClampNeg) ≤ x5 then k108 x2 I J else (if x2 = 0 then f_Model_name_b100 x5 (f_Model_name_L65 x1 x4 k108 nf65) I J else f_Model_spot x1 x4 x5 I J (fun r89 I89 J89 => vp_in r89 1120 ∧ (if (I89 189 r89.toNatClampNeg) < 0 then f_Model_name_b100 x5 (f_Model_name_L65 x1 x4 k108 nf65) I89 J89 else f_Model_name_b101 x5 1 (f_Model_name_L65 x1 x4 k108 nf65) I89 J89))))
def f_Model_name_b61 (x1 : Int32) (x2 : Int32) (x4 : Int32) (s0 : Int32) (kh : Int32 → Int32 → Int32 → MI → MJ → Prop) (I : MI) (J : MJ) : Prop :=
  ∃ n, f_Model_name_L65 x1 x4 (fun (z108_x2 : Int32) (I : MI) (J : MJ) => ∀ t108 : Int32, t108 = x4 + 1 → kh z108_x2 s0 t108 I J) n x2 0 I J
def f_Model_name_b60 (x1 : Int32) (x2 : Int32) (x4 : Int32) (kh : Int32 → Int32 → Int32 → MI → MJ → Prop) (I : MI) (J : MJ) : Prop :=
  f_Model_name_b61 x1 x2 x4 0 kh I J
def f_Model_name_L7 (x1 : Int32) (k114 : Int32 → Int32 → MI → MJ → Prop) : Nat → Int32 → Int32 → Int32 → MI → MJ → Prop
  | 0, _, _, _, _, _ => False
  | nf7 + 1, x2, x3, x4, I, J =>
  vp_in x1 20 ∧ (if (I 185 x1.toNatClampNeg) ≤ x4 then k114 x2 x3 I J else vp_in x1 20 ∧ vp_in ((14 * x1) + x4) 280 ∧ ∀ I35 : MI, I35 = sI I 188 (upd (I 188) ((14 * x1) + x4).toNatClampNeg (I 186 x1.toNatClampNeg)) → (if x3 = 0 then f_Model_name_b60 x1 x2 x4 (f_Model_name_L7 x1 k114 nf7) I35 J else vp_in ((14 * x1) + x4) 280 ∧ (if 2 ≤ (I35 187 ((14 * x1) + x4).toNatClampNeg) then f_Model_name_b60 x1 x2 x4 (f_Model_name_L7 x1 k114 nf7) I35 J else f_Model_name_b61 x1 x2 x4 1 (f_Model_name_L7 x1 k114 nf7) I35 J)))
def f_Model_name (x1 : Int32) (I : MI) (J : MJ) (Q : MI → MJ → Prop) : Prop :=
  ∃ n, f_Model_name_L7 x1 (fun (z114_x2 : Int32) (z114_x3 : Int32) (I : MI) (J : MJ) => (if z114_x2 = 0 then f_Model_name_b136 x1 2 Q I J else (if z114_x3 = 0 then f_Model_name_b136 x1 1 Q I J else f_Model_name_b136 x1 0 Q I J))) n 1 1 0 I J
set_option maxRecDepth 100000 in
set_option maxHeartbeats 4000000 in
theorem w_Model_name_b136 {Γ : Ctx} {Q : MI → MJ → Prop} {s1 : Int32} {s2 : Int32}  (X : Cx Γ cX11_name 6 RX11 1) (Y : Rt Γ (Pv Q) (Option.none : Option Jvm.ClassFile.FieldType))   {I : MI} {J : MJ} (h : f_Model_name_b136 s1 s2 Q I J) : Wp Γ 6 136 [] [.int s2, .int s1, .ref (ad Γ 184)] I J := by
  unfold f_Model_name_b136 at h
  obtain ⟨hb136, h⟩ := h
  refine wp_iast X sh_184 hb136 dX11_name_136 ?_
  refine wp_memI (fun I136 eI136 => ?_)
  have h := h I136 eI136
  exact wp_vret X Y dX11_name_137 ⟨rfl, h⟩

set_option maxRecDepth 100000 in
set_option maxHeartbeats 4000000 in
theorem w_Model_name_b101 {Γ : Ctx} {Q : MI → MJ → Prop} {x1 : Int32} {x3 : Int32} {x4 : Int32} {x5 : Int32} {s0 : Int32} {kh : Int32 → Int32 → MI → MJ → Prop} (X : Cx Γ cX11_name 6 RX11 1) (Y : Rt Γ (Pv Q) (Option.none : Option Jvm.ClassFile.FieldType))  (hkh : ∀ (x2 : Int32) (x5 : Int32) (I : MI) (J : MJ), kh x2 x5 I J → Wp Γ 6 65 [(0, .ref (ad Γ 177)), (1, .int x1), (2, .int x2), (3, .int x3), (4, .int x4), (5, .int x5)] [] I J) {I : MI} {J : MJ} (h : f_Model_name_b101 x5 s0 kh I J) : Wp Γ 6 101 [(0, .ref (ad Γ 177)), (1, .int x1), (3, .int x3), (4, .int x4), (5, .int x5)] [.int s0] I J := by
  unfold f_Model_name_b101 at h
  refine wp_istore_n (L' := [(2, .int s0), (0, .ref (ad Γ 177)), (1, .int x1), (3, .int x3), (4, .int x4), (5, .int x5)]) X dX11_name_101 rfl (by decide) rfl ?_
  obtain ⟨t102, et102⟩ : ∃ y : Int32, y = x5 + 1 := ⟨_, rfl⟩
  have h := h t102 et102
  refine wp_iinc (L' := [(5, .int t102), (2, .int s0), (0, .ref (ad Γ 177)), (1, .int x1), (3, .int x3), (4, .int x4)]) X dX11_name_102 5 rfl (ii_1 et102) (by decide) rfl ?_
  refine wp_goto (tgt := 65) X dX11_name_105 (by decide) ?_
  refine wp_sub X [2, 3, 1, 4, 5, 0] rfl ?_
  exact hkh _ _ _ _ h

set_option maxRecDepth 100000 in
set_option maxHeartbeats 4000000 in
theorem w_Model_name_b100 {Γ : Ctx} {Q : MI → MJ → Prop} {x1 : Int32} {x3 : Int32} {x4 : Int32} {x5 : Int32} {kh : Int32 → Int32 → MI → MJ → Prop} (X : Cx Γ cX11_name 6 RX11 1) (Y : Rt Γ (Pv Q) (Option.none : Option Jvm.ClassFile.FieldType))  (hkh : ∀ (x2 : Int32) (x5 : Int32) (I : MI) (J : MJ), kh x2 x5 I J → Wp Γ 6 65 [(0, .ref (ad Γ 177)), (1, .int x1), (2, .int x2), (3, .int x3), (4, .int x4), (5, .int x5)] [] I J) {I : MI} {J : MJ} (h : f_Model_name_b100 x5 kh I J) : Wp Γ 6 100 [(0, .ref (ad Γ 177)), (1, .int x1), (3, .int x3), (4, .int x4), (5, .int x5)] [] I J := by
  unfold f_Model_name_b100 at h
  refine wp_iconst X dX11_name_100 ic_0 ?_
  exact w_Model_name_b101 X Y hkh h

set_option maxRecDepth 100000 in
set_option maxHeartbeats 4000000 in
theorem w_Model_name_L65 {Γ : Ctx} {Q : MI → MJ → Prop} {x1 : Int32} {x3 : Int32} {x4 : Int32} {k108 : Int32 → MI → MJ → Prop} (X : Cx Γ cX11_name 6 RX11 1) (Y : Rt Γ (Pv Q) (Option.none : Option Jvm.ClassFile.FieldType))  (hk108 : ∀ (x2 : Int32) (I : MI) (J : MJ), k108 x2 I J → Wp Γ 6 108 [(0, .ref (ad Γ 177)), (1, .int x1), (2, .int x2), (3, .int x3), (4, .int x4)] [] I J) : ∀ (n : Nat) (x2 : Int32) (x5 : Int32) (I : MI) (J : MJ), f_Model_name_L65 x1 x4 k108 n x2 x5 I J → Wp Γ 6 65 [(0, .ref (ad Γ 177)), (1, .int x1), (2, .int x2), (3, .int x3), (4, .int x4), (5, .int x5)] [] I J := by
  intro n
  induction n with
  | zero => intro x2 x5 I J h; exact absurd h (by simp [f_Model_name_L65])
  | succ n ih =>
  intro x2 x5 I J h
  unfold f_Model_name_L65 at h
  refine wp_iload X dX11_name_65 5 rfl ?_
  refine wp_aload_n X dX11_name_67 0 rfl ?_
  refine gf_X11_36 (o' := 186) X sh_177 rfl dX11_name_68 ?_
  refine wp_iload_n X dX11_name_71 1 rfl ?_
  obtain ⟨hb72, h⟩ := h
  refine wp_iald X sh_186 hb72 dX11_name_72 ?_
  refine wp_icmp_ge (tgt := 108) X dX11_name_73 (by decide) (fun hc => ?_) (fun hc => ?_)
  · have h := ite_t h hc
    refine wp_sub X [0, 1, 2, 3, 4] rfl ?_
    exact hk108 _ _ _ h
  · have h := ite_f h hc
    refine wp_iload_n X dX11_name_76 2 rfl ?_
    refine wp_if_eq (tgt := 100) X dX11_name_77 (by decide) (fun hc => ?_) (fun hc => ?_)
    · have h := ite_t h hc
      refine wp_sub X [0, 1, 3, 4, 5] rfl ?_
      exact w_Model_name_b100 X Y ih h
    · have h := ite_f h hc
      refine wp_aload_n X dX11_name_80 0 rfl ?_
      refine gf_X11_45 (o' := 189) X sh_177 rfl dX11_name_81 ?_
      refine wp_iload_n X dX11_name_84 1 rfl ?_
      refine wp_iload X dX11_name_85 4 rfl ?_
      refine wp_iload X dX11_name_87 5 rfl ?_
      refine cs_Model_spot X dX11_name_89 ml_X11_149  h (Nat.le_of_ble_eq_true rfl) (by decide) (fun r89 I89 J89 h => ?_)
      obtain ⟨hb92, h⟩ := h
      refine wp_iald X sh_189 hb92 dX11_name_92 ?_
      refine wp_if_lt (tgt := 100) X dX11_name_93 (by decide) (fun hc => ?_) (fun hc => ?_)
      · have h := ite_t h hc
        refine wp_sub X [0, 1, 3, 4, 5] rfl ?_
        exact w_Model_name_b100 X Y ih h
      · have h := ite_f h hc
        refine wp_iconst X dX11_name_96 ic_1 ?_
        refine wp_goto (tgt := 101) X dX11_name_97 (by decide) ?_
        refine wp_sub X [0, 1, 3, 4, 5] rfl ?_
        exact w_Model_name_b101 X Y ih h

set_option maxRecDepth 100000 in
set_option maxHeartbeats 4000000 in
theorem w_Model_name_b61 {Γ : Ctx} {Q : MI → MJ → Prop} {x1 : Int32} {x2 : Int32} {x4 : Int32} {s0 : Int32} {kh : Int32 → Int32 → Int32 → MI → MJ → Prop} (X : Cx Γ cX11_name 6 RX11 1) (Y : Rt Γ (Pv Q) (Option.none : Option Jvm.ClassFile.FieldType))  (hkh : ∀ (x2 : Int32) (x3 : Int32) (x4 : Int32) (I : MI) (J : MJ), kh x2 x3 x4 I J → Wp Γ 6 7 [(0, .ref (ad Γ 177)), (1, .int x1), (2, .int x2), (3, .int x3), (4, .int x4)] [] I J) {I : MI} {J : MJ} (h : f_Model_name_b61 x1 x2 x4 s0 kh I J) : Wp Γ 6 61 [(0, .ref (ad Γ 177)), (1, .int x1), (2, .int x2), (4, .int x4)] [.int s0] I J := by
  unfold f_Model_name_b61 at h
  refine wp_istore_n (L' := [(3, .int s0), (0, .ref (ad Γ 177)), (1, .int x1), (2, .int x2), (4, .int x4)]) X dX11_name_61 rfl (by decide) rfl ?_
  refine wp_iconst X dX11_name_62 ic_0 ?_
  refine wp_istore (L' := [(5, .int 0), (3, .int s0), (0, .ref (ad Γ 177)), (1, .int x1), (2, .int x2), (4, .int x4)]) X dX11_name_63 (by decide) rfl ?_
  obtain ⟨n, h⟩ := h
  refine wp_sub X [2, 3, 4, 1, 5, 0] rfl ?_
  refine w_Model_name_L65 X Y  ?_ n _ _ _ _ h
  · intro z108_x2 I J h
    obtain ⟨t108, et108⟩ : ∃ y : Int32, y = x4 + 1 := ⟨_, rfl⟩
    have h := h t108 et108
    refine wp_iinc (L' := [(4, .int t108), (0, .ref (ad Γ 177)), (1, .int x1), (2, .int z108_x2), (3, .int s0)]) X dX11_name_108 4 rfl (ii_1 et108) (by decide) rfl ?_
    refine wp_goto (tgt := 7) X dX11_name_111 (by decide) ?_
    refine wp_sub X [1, 2, 3, 4, 0] rfl ?_
    exact hkh _ _ _ _ _ h

set_option maxRecDepth 100000 in
set_option maxHeartbeats 4000000 in
theorem w_Model_name_b60 {Γ : Ctx} {Q : MI → MJ → Prop} {x1 : Int32} {x2 : Int32} {x4 : Int32} {kh : Int32 → Int32 → Int32 → MI → MJ → Prop} (X : Cx Γ cX11_name 6 RX11 1) (Y : Rt Γ (Pv Q) (Option.none : Option Jvm.ClassFile.FieldType))  (hkh : ∀ (x2 : Int32) (x3 : Int32) (x4 : Int32) (I : MI) (J : MJ), kh x2 x3 x4 I J → Wp Γ 6 7 [(0, .ref (ad Γ 177)), (1, .int x1), (2, .int x2), (3, .int x3), (4, .int x4)] [] I J) {I : MI} {J : MJ} (h : f_Model_name_b60 x1 x2 x4 kh I J) : Wp Γ 6 60 [(0, .ref (ad Γ 177)), (1, .int x1), (2, .int x2), (4, .int x4)] [] I J := by
  unfold f_Model_name_b60 at h
  refine wp_iconst X dX11_name_60 ic_0 ?_
  exact w_Model_name_b61 X Y hkh h

set_option maxRecDepth 100000 in
set_option maxHeartbeats 4000000 in
theorem w_Model_name_L7 {Γ : Ctx} {Q : MI → MJ → Prop} {x1 : Int32} {k114 : Int32 → Int32 → MI → MJ → Prop} (X : Cx Γ cX11_name 6 RX11 1) (Y : Rt Γ (Pv Q) (Option.none : Option Jvm.ClassFile.FieldType))  (hk114 : ∀ (x2 : Int32) (x3 : Int32) (I : MI) (J : MJ), k114 x2 x3 I J → Wp Γ 6 114 [(0, .ref (ad Γ 177)), (1, .int x1), (2, .int x2), (3, .int x3)] [] I J) : ∀ (n : Nat) (x2 : Int32) (x3 : Int32) (x4 : Int32) (I : MI) (J : MJ), f_Model_name_L7 x1 k114 n x2 x3 x4 I J → Wp Γ 6 7 [(0, .ref (ad Γ 177)), (1, .int x1), (2, .int x2), (3, .int x3), (4, .int x4)] [] I J := by
  intro n
  induction n with
  | zero => intro x2 x3 x4 I J h; exact absurd h (by simp [f_Model_name_L7])
  | succ n ih =>
  intro x2 x3 x4 I J h
  unfold f_Model_name_L7 at h
  refine wp_iload X dX11_name_7 4 rfl ?_
  refine wp_aload_n X dX11_name_9 0 rfl ?_
  refine gf_X11_33 (o' := 185) X sh_177 rfl dX11_name_10 ?_
  refine wp_iload_n X dX11_name_13 1 rfl ?_
  obtain ⟨hb14, h⟩ := h
  refine wp_iald X sh_185 hb14 dX11_name_14 ?_
  refine wp_icmp_ge (tgt := 114) X dX11_name_15 (by decide) (fun hc => ?_) (fun hc => ?_)
  · have h := ite_t h hc
    refine wp_sub X [0, 1, 2, 3] rfl ?_
    exact hk114 _ _ _ _ h
  · have h := ite_f h hc
    refine wp_aload_n X dX11_name_18 0 rfl ?_
    refine gf_X11_42 (o' := 188) X sh_177 rfl dX11_name_19 ?_
    refine wp_bipush X dX11_name_22 bi_14 ?_
    refine wp_iload_n X dX11_name_24 1 rfl ?_
    refine wp_imul X dX11_name_25 ?_
    refine wp_iload X dX11_name_26 4 rfl ?_
    refine wp_iadd X dX11_name_28 ?_
    refine wp_aload_n X dX11_name_29 0 rfl ?_
    refine gf_X11_36 (o' := 186) X sh_177 rfl dX11_name_30 ?_
    refine wp_iload_n X dX11_name_33 1 rfl ?_
    obtain ⟨hb34, h⟩ := h
    refine wp_iald X sh_186 hb34 dX11_name_34 ?_
    obtain ⟨hb35, h⟩ := h
    refine wp_iast X sh_188 hb35 dX11_name_35 ?_
    refine wp_memI (fun I35 eI35 => ?_)
    have h := h I35 eI35
    refine wp_iload_n X dX11_name_36 3 rfl ?_
    refine wp_if_eq (tgt := 60) X dX11_name_37 (by decide) (fun hc => ?_) (fun hc => ?_)
    · have h := ite_t h hc
      refine wp_sub X [0, 1, 2, 4] rfl ?_
      exact w_Model_name_b60 X Y ih h
    · have h := ite_f h hc
      refine wp_aload_n X dX11_name_40 0 rfl ?_
      refine gf_X11_39 (o' := 187) X sh_177 rfl dX11_name_41 ?_
      refine wp_bipush X dX11_name_44 bi_14 ?_
      refine wp_iload_n X dX11_name_46 1 rfl ?_
      refine wp_imul X dX11_name_47 ?_
      refine wp_iload X dX11_name_48 4 rfl ?_
      refine wp_iadd X dX11_name_50 ?_
      obtain ⟨hb51, h⟩ := h
      refine wp_iald X sh_187 hb51 dX11_name_51 ?_
      refine wp_iconst X dX11_name_52 ic_2 ?_
      refine wp_icmp_ge (tgt := 60) X dX11_name_53 (by decide) (fun hc => ?_) (fun hc => ?_)
      · have h := ite_t h hc
        refine wp_sub X [0, 1, 2, 4] rfl ?_
        exact w_Model_name_b60 X Y ih h
      · have h := ite_f h hc
        refine wp_iconst X dX11_name_56 ic_1 ?_
        refine wp_goto (tgt := 61) X dX11_name_57 (by decide) ?_
        refine wp_sub X [0, 1, 2, 4] rfl ?_
        exact w_Model_name_b61 X Y ih h

set_option maxRecDepth 100000 in
set_option maxHeartbeats 4000000 in
theorem w_Model_name_b0 {Γ : Ctx} {Q : MI → MJ → Prop} {x1 : Int32}  (X : Cx Γ cX11_name 6 RX11 1) (Y : Rt Γ (Pv Q) (Option.none : Option Jvm.ClassFile.FieldType))   {I : MI} {J : MJ} (h : f_Model_name x1 I J Q) : Wp Γ 6 0 [(0, .ref (ad Γ 177)), (1, .int x1)] [] I J := by
  unfold f_Model_name at h
  refine wp_iconst X dX11_name_0 ic_1 ?_
  refine wp_istore_n (L' := [(2, .int 1), (0, .ref (ad Γ 177)), (1, .int x1)]) X dX11_name_1 rfl (by decide) rfl ?_
  refine wp_iconst X dX11_name_2 ic_1 ?_
  refine wp_istore_n (L' := [(3, .int 1), (2, .int 1), (0, .ref (ad Γ 177)), (1, .int x1)]) X dX11_name_3 rfl (by decide) rfl ?_
  refine wp_iconst X dX11_name_4 ic_0 ?_
  refine wp_istore (L' := [(4, .int 0), (3, .int 1), (2, .int 1), (0, .ref (ad Γ 177)), (1, .int x1)]) X dX11_name_5 (by decide) rfl ?_
  obtain ⟨n, h⟩ := h
  refine wp_sub X [3, 4, 2, 1, 0] rfl ?_
  refine w_Model_name_L7 X Y  ?_ n _ _ _ _ _ h
  · intro z114_x2 z114_x3 I J h
    refine wp_aload_n X dX11_name_114 0 rfl ?_
    refine gf_X11_30 (o' := 184) X sh_177 rfl dX11_name_115 ?_
    refine wp_iload_n X dX11_name_118 1 rfl ?_
    refine wp_iload_n X dX11_name_119 2 rfl ?_
    refine wp_if_ne (tgt := 127) X dX11_name_120 (by decide) (fun hc => ?_) (fun hc => ?_)
    · have h := ite_f h hc
      refine wp_iload_n X dX11_name_127 3 rfl ?_
      refine wp_if_eq (tgt := 135) X dX11_name_128 (by decide) (fun hc => ?_) (fun hc => ?_)
      · have h := ite_t h hc
        refine wp_iconst X dX11_name_135 ic_1 ?_
        refine wp_sub X [] rfl ?_
        exact w_Model_name_b136 X Y  h
      · have h := ite_f h hc
        refine wp_iconst X dX11_name_131 ic_0 ?_
        refine wp_goto (tgt := 136) X dX11_name_132 (by decide) ?_
        refine wp_sub X [] rfl ?_
        exact w_Model_name_b136 X Y  h
    · have h := ite_t h hc
      refine wp_iconst X dX11_name_123 ic_2 ?_
      refine wp_goto (tgt := 136) X dX11_name_124 (by decide) ?_
      refine wp_sub X [] rfl ?_
      exact w_Model_name_b136 X Y  h

theorem c_Model_name {l : Launch} {g : GE} (hg : Inj g) {I : MI} {J : MJ} {Q : MI → MJ → Prop} {x1 : Int32}  (h : f_Model_name x1 I J Q) : Cm l g yX11_name cX11_name 6 (Option.none : Option Jvm.ClassFile.FieldType) 1 [.ref (g.1 177), .int x1] I J (Pv Q) := by
  refine Cm.of (As := fun ad => [.ref (ad 177), .int x1]) hg pn_X11 (Nat.le_of_ble_eq_true rfl) ?_
  exact (fun Γ _ _ X Y => w_Model_name_b0 X Y  h)
theorem cv_Model_name {Γ : Ctx} {cc : ByteArray} {nL d pc index : Nat} {own : String} {L : List (Nat × Value)} {rest : List Value} {I : MI} {J : MJ} {Q : MI → MJ → Prop} {x1 : Int32} (X : Cx Γ cc nL own d) (hd : decode cc pc = .ok (.invokevirtual index, 3)) (hlink : Cond.methodLink own index yX11_name ∈ TT)  (h : f_Model_name x1 I J Q) (hrest : (rest.map fun v => v.category).sum ≤ 8) (hdd : 1 + 1 ≤ d) (kk : ∀ (I' : MI) (J' : MJ), Q I' J' → Wp Γ nL (pc + 3) L rest I' J') : Wp Γ nL pc L (.int x1 :: .ref (ad Γ 177) :: rest) I J :=
  wp_callV (As := [.int x1]) (rest := rest) (T := TX11) (N := 62) X hd hlink mv_X11_name sh_177 (by decide) rfl (c_Model_name X.inj  h) rfl rfl hrest hdd (fun v I' J' hv => by obtain ⟨rfl, hq⟩ := hv; exact kk I' J' hq)
theorem dX11_trim_0 : decode cX11_trim 0 = .ok (.iconst 1, 1) := by decide +kernel
theorem dX11_trim_1 : decode cX11_trim 1 = .ok (.istore_n 2, 1) := by decide +kernel
theorem dX11_trim_2 : decode cX11_trim 2 = .ok (.iconst 0, 1) := by decide +kernel
theorem dX11_trim_3 : decode cX11_trim 3 = .ok (.istore_n 3, 1) := by decide +kernel
theorem dX11_trim_4 : decode cX11_trim 4 = .ok (.iload_n 3, 1) := by decide +kernel
theorem dX11_trim_5 : decode cX11_trim 5 = .ok (.aload_n 0, 1) := by decide +kernel
theorem dX11_trim_6 : decode cX11_trim 6 = .ok (.getfield 33, 3) := by decide +kernel
theorem dX11_trim_9 : decode cX11_trim 9 = .ok (.iload_n 1, 1) := by decide +kernel
theorem dX11_trim_10 : decode cX11_trim 10 = .ok (.iaload, 1) := by decide +kernel
theorem dX11_trim_11 : decode cX11_trim 11 = .ok (.if_icmp .ge 54, 3) := by decide +kernel
theorem dX11_trim_14 : decode cX11_trim 14 = .ok (.iconst 1, 1) := by decide +kernel
theorem dX11_trim_15 : decode cX11_trim 15 = .ok (.istore 4, 2) := by decide +kernel
theorem dX11_trim_17 : decode cX11_trim 17 = .ok (.iload 4, 2) := by decide +kernel
theorem dX11_trim_19 : decode cX11_trim 19 = .ok (.iconst 4, 1) := by decide +kernel
theorem dX11_trim_20 : decode cX11_trim 20 = .ok (.if_icmp .ge 39, 3) := by decide +kernel
theorem dX11_trim_23 : decode cX11_trim 23 = .ok (.aload_n 0, 1) := by decide +kernel
theorem dX11_trim_24 : decode cX11_trim 24 = .ok (.getfield 45, 3) := by decide +kernel
theorem dX11_trim_27 : decode cX11_trim 27 = .ok (.iload_n 1, 1) := by decide +kernel
theorem dX11_trim_28 : decode cX11_trim 28 = .ok (.iload_n 3, 1) := by decide +kernel
theorem dX11_trim_29 : decode cX11_trim 29 = .ok (.iload 4, 2) := by decide +kernel
theorem dX11_trim_31 : decode cX11_trim 31 = .ok (.invokestatic 149, 3) := by decide +kernel
theorem dX11_trim_34 : decode cX11_trim 34 = .ok (.iaload, 1) := by decide +kernel
theorem dX11_trim_35 : decode cX11_trim 35 = .ok (.ifCond .lt 16, 3) := by decide +kernel
theorem dX11_trim_38 : decode cX11_trim 38 = .ok (.iload 4, 2) := by decide +kernel
theorem dX11_trim_40 : decode cX11_trim 40 = .ok (.iload_n 2, 1) := by decide +kernel
theorem dX11_trim_41 : decode cX11_trim 41 = .ok (.if_icmp .lt 10, 3) := by decide +kernel
theorem dX11_trim_44 : decode cX11_trim 44 = .ok (.iload 4, 2) := by decide +kernel
theorem dX11_trim_46 : decode cX11_trim 46 = .ok (.iconst 1, 1) := by decide +kernel
theorem dX11_trim_47 : decode cX11_trim 47 = .ok (.iadd, 1) := by decide +kernel
theorem dX11_trim_48 : decode cX11_trim 48 = .ok (.goto 4, 3) := by decide +kernel
theorem dX11_trim_51 : decode cX11_trim 51 = .ok (.iload_n 2, 1) := by decide +kernel
theorem dX11_trim_52 : decode cX11_trim 52 = .ok (.istore_n 2, 1) := by decide +kernel
theorem dX11_trim_53 : decode cX11_trim 53 = .ok (.iinc 4 1, 3) := by decide +kernel
theorem dX11_trim_56 : decode cX11_trim 56 = .ok (.goto (-39), 3) := by decide +kernel
theorem dX11_trim_59 : decode cX11_trim 59 = .ok (.iinc 3 1, 3) := by decide +kernel
theorem dX11_trim_62 : decode cX11_trim 62 = .ok (.goto (-58), 3) := by decide +kernel
theorem dX11_trim_65 : decode cX11_trim 65 = .ok (.aload_n 0, 1) := by decide +kernel
theorem dX11_trim_66 : decode cX11_trim 66 = .ok (.getfield 36, 3) := by decide +kernel
theorem dX11_trim_69 : decode cX11_trim 69 = .ok (.iload_n 1, 1) := by decide +kernel
theorem dX11_trim_70 : decode cX11_trim 70 = .ok (.iload_n 2, 1) := by decide +kernel
theorem dX11_trim_71 : decode cX11_trim 71 = .ok (.iastore, 1) := by decide +kernel
theorem dX11_trim_72 : decode cX11_trim 72 = .ok (.aload_n 0, 1) := by decide +kernel
theorem dX11_trim_73 : decode cX11_trim 73 = .ok (.iload_n 1, 1) := by decide +kernel
theorem dX11_trim_74 : decode cX11_trim 74 = .ok (.invokevirtual 216, 3) := by decide +kernel
theorem dX11_trim_77 : decode cX11_trim 77 = .ok (.return_, 1) := by decide +kernel
def f_Model_trim_b52 (x4 : Int32) (s0 : Int32) (kh : Int32 → Int32 → MI → MJ → Prop) (I : MI) (J : MJ) : Prop :=
  ∀ t53 : Int32, t53 = x4 + 1 → kh s0 t53 I J
def f_Model_trim_b51 (x2 : Int32) (x4 : Int32) (kh : Int32 → Int32 → MI → MJ → Prop) (I : MI) (J : MJ) : Prop :=
  f_Model_trim_b52 x4 x2 kh I J
def f_Model_trim_L17 (x1 : Int32) (x3 : Int32) (k59 : Int32 → MI → MJ → Prop) : Nat → Int32 → Int32 → MI → MJ → Prop
  | 0, _, _, _, _ => False
  | nf17 + 1, x2, x4, I, J =>
  (if 4 ≤ x4 then k59 x2 I J else f_Model_spot x1 x3 x4 I J (fun r31 I31 J31 => vp_in r31 1120 ∧ (if (I31 189 r31.toNatClampNeg) < 0 then f_Model_trim_b51 x2 x4 (f_Model_trim_L17 x1 x3 k59 nf17) I31 J31 else (if x4 < x2 then f_Model_trim_b51 x2 x4 (f_Model_trim_L17 x1 x3 k59 nf17) I31 J31 else f_Model_trim_b52 x4 (x4 + 1) (f_Model_trim_L17 x1 x3 k59 nf17) I31 J31))))
def f_Model_trim_L4 (x1 : Int32) (k65 : Int32 → MI → MJ → Prop) : Nat → Int32 → Int32 → MI → MJ → Prop
  | 0, _, _, _, _ => False
  | nf4 + 1, x2, x3, I, J =>
  vp_in x1 20 ∧ (if (I 185 x1.toNatClampNeg) ≤ x3 then k65 x2 I J else ∃ n, f_Model_trim_L17 x1 x3 (fun (z59_x2 : Int32) (I : MI) (J : MJ) => ∀ t59 : Int32, t59 = x3 + 1 → f_Model_trim_L4 x1 k65 nf4 z59_x2 t59 I J) n x2 1 I J)
def f_Model_trim (x1 : Int32) (I : MI) (J : MJ) (Q : MI → MJ → Prop) : Prop :=
  ∃ n, f_Model_trim_L4 x1 (fun (z65_x2 : Int32) (I : MI) (J : MJ) => vp_in x1 20 ∧ ∀ I71 : MI, I71 = sI I 186 (upd (I 186) x1.toNatClampNeg z65_x2) → f_Model_name x1 I71 J (fun I74 J74 => Q I74 J74)) n 1 0 I J
set_option maxRecDepth 100000 in
set_option maxHeartbeats 4000000 in
theorem w_Model_trim_b52 {Γ : Ctx} {Q : MI → MJ → Prop} {x1 : Int32} {x3 : Int32} {x4 : Int32} {s0 : Int32} {kh : Int32 → Int32 → MI → MJ → Prop} (X : Cx Γ cX11_trim 5 RX11 2) (Y : Rt Γ (Pv Q) (Option.none : Option Jvm.ClassFile.FieldType))  (hkh : ∀ (x2 : Int32) (x4 : Int32) (I : MI) (J : MJ), kh x2 x4 I J → Wp Γ 5 17 [(0, .ref (ad Γ 177)), (1, .int x1), (2, .int x2), (3, .int x3), (4, .int x4)] [] I J) {I : MI} {J : MJ} (h : f_Model_trim_b52 x4 s0 kh I J) : Wp Γ 5 52 [(0, .ref (ad Γ 177)), (1, .int x1), (3, .int x3), (4, .int x4)] [.int s0] I J := by
  unfold f_Model_trim_b52 at h
  refine wp_istore_n (L' := [(2, .int s0), (0, .ref (ad Γ 177)), (1, .int x1), (3, .int x3), (4, .int x4)]) X dX11_trim_52 rfl (by decide) rfl ?_
  obtain ⟨t53, et53⟩ : ∃ y : Int32, y = x4 + 1 := ⟨_, rfl⟩
  have h := h t53 et53
  refine wp_iinc (L' := [(4, .int t53), (2, .int s0), (0, .ref (ad Γ 177)), (1, .int x1), (3, .int x3)]) X dX11_trim_53 4 rfl (ii_1 et53) (by decide) rfl ?_
  refine wp_goto (tgt := 17) X dX11_trim_56 (by decide) ?_
  refine wp_sub X [2, 3, 1, 4, 0] rfl ?_
  exact hkh _ _ _ _ h

set_option maxRecDepth 100000 in
set_option maxHeartbeats 4000000 in
theorem w_Model_trim_b51 {Γ : Ctx} {Q : MI → MJ → Prop} {x1 : Int32} {x2 : Int32} {x3 : Int32} {x4 : Int32} {kh : Int32 → Int32 → MI → MJ → Prop} (X : Cx Γ cX11_trim 5 RX11 2) (Y : Rt Γ (Pv Q) (Option.none : Option Jvm.ClassFile.FieldType))  (hkh : ∀ (x2 : Int32) (x4 : Int32) (I : MI) (J : MJ), kh x2 x4 I J → Wp Γ 5 17 [(0, .ref (ad Γ 177)), (1, .int x1), (2, .int x2), (3, .int x3), (4, .int x4)] [] I J) {I : MI} {J : MJ} (h : f_Model_trim_b51 x2 x4 kh I J) : Wp Γ 5 51 [(0, .ref (ad Γ 177)), (1, .int x1), (2, .int x2), (3, .int x3), (4, .int x4)] [] I J := by
  unfold f_Model_trim_b51 at h
  refine wp_iload_n X dX11_trim_51 2 rfl ?_
  refine wp_sub X [0, 1, 3, 4] rfl ?_
  exact w_Model_trim_b52 X Y hkh h

set_option maxRecDepth 100000 in
set_option maxHeartbeats 4000000 in
theorem w_Model_trim_L17 {Γ : Ctx} {Q : MI → MJ → Prop} {x1 : Int32} {x3 : Int32} {k59 : Int32 → MI → MJ → Prop} (X : Cx Γ cX11_trim 5 RX11 2) (Y : Rt Γ (Pv Q) (Option.none : Option Jvm.ClassFile.FieldType))  (hk59 : ∀ (x2 : Int32) (I : MI) (J : MJ), k59 x2 I J → Wp Γ 5 59 [(0, .ref (ad Γ 177)), (1, .int x1), (2, .int x2), (3, .int x3)] [] I J) : ∀ (n : Nat) (x2 : Int32) (x4 : Int32) (I : MI) (J : MJ), f_Model_trim_L17 x1 x3 k59 n x2 x4 I J → Wp Γ 5 17 [(0, .ref (ad Γ 177)), (1, .int x1), (2, .int x2), (3, .int x3), (4, .int x4)] [] I J := by
  intro n
  induction n with
  | zero => intro x2 x4 I J h; exact absurd h (by simp [f_Model_trim_L17])
  | succ n ih =>
  intro x2 x4 I J h
  unfold f_Model_trim_L17 at h
  refine wp_iload X dX11_trim_17 4 rfl ?_
  refine wp_iconst X dX11_trim_19 ic_4 ?_
  refine wp_icmp_ge (tgt := 59) X dX11_trim_20 (by decide) (fun hc => ?_) (fun hc => ?_)
  · have h := ite_t h hc
    refine wp_sub X [0, 1, 2, 3] rfl ?_
    exact hk59 _ _ _ h
  · have h := ite_f h hc
    refine wp_aload_n X dX11_trim_23 0 rfl ?_
    refine gf_X11_45 (o' := 189) X sh_177 rfl dX11_trim_24 ?_
    refine wp_iload_n X dX11_trim_27 1 rfl ?_
    refine wp_iload_n X dX11_trim_28 3 rfl ?_
    refine wp_iload X dX11_trim_29 4 rfl ?_
    refine cs_Model_spot X dX11_trim_31 ml_X11_149  h (Nat.le_of_ble_eq_true rfl) (by decide) (fun r31 I31 J31 h => ?_)
    obtain ⟨hb34, h⟩ := h
    refine wp_iald X sh_189 hb34 dX11_trim_34 ?_
    refine wp_if_lt (tgt := 51) X dX11_trim_35 (by decide) (fun hc => ?_) (fun hc => ?_)
    · have h := ite_t h hc
      exact w_Model_trim_b51 X Y ih h
    · have h := ite_f h hc
      refine wp_iload X dX11_trim_38 4 rfl ?_
      refine wp_iload_n X dX11_trim_40 2 rfl ?_
      refine wp_icmp_lt (tgt := 51) X dX11_trim_41 (by decide) (fun hc => ?_) (fun hc => ?_)
      · have h := ite_t h hc
        exact w_Model_trim_b51 X Y ih h
      · have h := ite_f h hc
        refine wp_iload X dX11_trim_44 4 rfl ?_
        refine wp_iconst X dX11_trim_46 ic_1 ?_
        refine wp_iadd X dX11_trim_47 ?_
        refine wp_goto (tgt := 52) X dX11_trim_48 (by decide) ?_
        refine wp_sub X [0, 1, 3, 4] rfl ?_
        exact w_Model_trim_b52 X Y ih h

set_option maxRecDepth 100000 in
set_option maxHeartbeats 4000000 in
theorem w_Model_trim_L4 {Γ : Ctx} {Q : MI → MJ → Prop} {x1 : Int32} {k65 : Int32 → MI → MJ → Prop} (X : Cx Γ cX11_trim 5 RX11 2) (Y : Rt Γ (Pv Q) (Option.none : Option Jvm.ClassFile.FieldType))  (hk65 : ∀ (x2 : Int32) (I : MI) (J : MJ), k65 x2 I J → Wp Γ 5 65 [(0, .ref (ad Γ 177)), (1, .int x1), (2, .int x2)] [] I J) : ∀ (n : Nat) (x2 : Int32) (x3 : Int32) (I : MI) (J : MJ), f_Model_trim_L4 x1 k65 n x2 x3 I J → Wp Γ 5 4 [(0, .ref (ad Γ 177)), (1, .int x1), (2, .int x2), (3, .int x3)] [] I J := by
  intro n
  induction n with
  | zero => intro x2 x3 I J h; exact absurd h (by simp [f_Model_trim_L4])
  | succ n ih =>
  intro x2 x3 I J h
  unfold f_Model_trim_L4 at h
  refine wp_iload_n X dX11_trim_4 3 rfl ?_
  refine wp_aload_n X dX11_trim_5 0 rfl ?_
  refine gf_X11_33 (o' := 185) X sh_177 rfl dX11_trim_6 ?_
  refine wp_iload_n X dX11_trim_9 1 rfl ?_
  obtain ⟨hb10, h⟩ := h
  refine wp_iald X sh_185 hb10 dX11_trim_10 ?_
  refine wp_icmp_ge (tgt := 65) X dX11_trim_11 (by decide) (fun hc => ?_) (fun hc => ?_)
  · have h := ite_t h hc
    refine wp_sub X [0, 1, 2] rfl ?_
    exact hk65 _ _ _ h
  · have h := ite_f h hc
    refine wp_iconst X dX11_trim_14 ic_1 ?_
    refine wp_istore (L' := [(4, .int 1), (0, .ref (ad Γ 177)), (1, .int x1), (2, .int x2), (3, .int x3)]) X dX11_trim_15 (by decide) rfl ?_
    obtain ⟨n, h⟩ := h
    refine wp_sub X [1, 2, 3, 4, 0] rfl ?_
    refine w_Model_trim_L17 X Y  ?_ n _ _ _ _ h
    · intro z59_x2 I J h
      obtain ⟨t59, et59⟩ : ∃ y : Int32, y = x3 + 1 := ⟨_, rfl⟩
      have h := h t59 et59
      refine wp_iinc (L' := [(3, .int t59), (0, .ref (ad Γ 177)), (1, .int x1), (2, .int z59_x2)]) X dX11_trim_59 3 rfl (ii_1 et59) (by decide) rfl ?_
      refine wp_goto (tgt := 4) X dX11_trim_62 (by decide) ?_
      refine wp_sub X [1, 2, 3, 0] rfl ?_
      exact ih _ _ _ _ h

set_option maxRecDepth 100000 in
set_option maxHeartbeats 4000000 in
theorem w_Model_trim_b0 {Γ : Ctx} {Q : MI → MJ → Prop} {x1 : Int32}  (X : Cx Γ cX11_trim 5 RX11 2) (Y : Rt Γ (Pv Q) (Option.none : Option Jvm.ClassFile.FieldType))   {I : MI} {J : MJ} (h : f_Model_trim x1 I J Q) : Wp Γ 5 0 [(0, .ref (ad Γ 177)), (1, .int x1)] [] I J := by
  unfold f_Model_trim at h
  refine wp_iconst X dX11_trim_0 ic_1 ?_
  refine wp_istore_n (L' := [(2, .int 1), (0, .ref (ad Γ 177)), (1, .int x1)]) X dX11_trim_1 rfl (by decide) rfl ?_
  refine wp_iconst X dX11_trim_2 ic_0 ?_
  refine wp_istore_n (L' := [(3, .int 0), (2, .int 1), (0, .ref (ad Γ 177)), (1, .int x1)]) X dX11_trim_3 rfl (by decide) rfl ?_
  obtain ⟨n, h⟩ := h
  refine wp_sub X [2, 3, 1, 0] rfl ?_
  refine w_Model_trim_L4 X Y  ?_ n _ _ _ _ h
  · intro z65_x2 I J h
    refine wp_aload_n X dX11_trim_65 0 rfl ?_
    refine gf_X11_36 (o' := 186) X sh_177 rfl dX11_trim_66 ?_
    refine wp_iload_n X dX11_trim_69 1 rfl ?_
    refine wp_iload_n X dX11_trim_70 2 rfl ?_
    obtain ⟨hb71, h⟩ := h
    refine wp_iast X sh_186 hb71 dX11_trim_71 ?_
    refine wp_memI (fun I71 eI71 => ?_)
    have h := h I71 eI71
    refine wp_aload_n X dX11_trim_72 0 rfl ?_
    refine wp_iload_n X dX11_trim_73 1 rfl ?_
    refine cv_Model_name X dX11_trim_74 ml_X11_216  h (Nat.le_of_ble_eq_true rfl) (by decide) (fun I74 J74 h => ?_)
    exact wp_vret X Y dX11_trim_77 ⟨rfl, h⟩

theorem c_Model_trim {l : Launch} {g : GE} (hg : Inj g) {I : MI} {J : MJ} {Q : MI → MJ → Prop} {x1 : Int32}  (h : f_Model_trim x1 I J Q) : Cm l g yX11_trim cX11_trim 5 (Option.none : Option Jvm.ClassFile.FieldType) 2 [.ref (g.1 177), .int x1] I J (Pv Q) := by
  refine Cm.of (As := fun ad => [.ref (ad 177), .int x1]) hg pn_X11 (Nat.le_of_ble_eq_true rfl) ?_
  exact (fun Γ _ _ X Y => w_Model_trim_b0 X Y  h)
theorem cv_Model_trim {Γ : Ctx} {cc : ByteArray} {nL d pc index : Nat} {own : String} {L : List (Nat × Value)} {rest : List Value} {I : MI} {J : MJ} {Q : MI → MJ → Prop} {x1 : Int32} (X : Cx Γ cc nL own d) (hd : decode cc pc = .ok (.invokevirtual index, 3)) (hlink : Cond.methodLink own index yX11_trim ∈ TT)  (h : f_Model_trim x1 I J Q) (hrest : (rest.map fun v => v.category).sum ≤ 8) (hdd : 2 + 1 ≤ d) (kk : ∀ (I' : MI) (J' : MJ), Q I' J' → Wp Γ nL (pc + 3) L rest I' J') : Wp Γ nL pc L (.int x1 :: .ref (ad Γ 177) :: rest) I J :=
  wp_callV (As := [.int x1]) (rest := rest) (T := TX11) (N := 62) X hd hlink mv_X11_trim sh_177 (by decide) rfl (c_Model_trim X.inj  h) rfl rfl hrest hdd (fun v I' J' hv => by obtain ⟨rfl, hq⟩ := hv; exact kk I' J' hq)
