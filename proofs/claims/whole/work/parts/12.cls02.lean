theorem dX3_leadOf_0 : decode cX3_leadOf 0 = .ok (.aload_n 0, 1) := by decide +kernel
theorem dX3_leadOf_1 : decode cX3_leadOf 1 = .ok (.iload_n 1, 1) := by decide +kernel
theorem dX3_leadOf_2 : decode cX3_leadOf 2 = .ok (.iload_n 2, 1) := by decide +kernel
theorem dX3_leadOf_3 : decode cX3_leadOf 3 = .ok (.invokevirtual 46, 3) := by decide +kernel
theorem dX3_leadOf_6 : decode cX3_leadOf 6 = .ok (.ifCond .eq 16, 3) := by decide +kernel
theorem dX3_leadOf_9 : decode cX3_leadOf 9 = .ok (.aload_n 0, 1) := by decide +kernel
theorem dX3_leadOf_10 : decode cX3_leadOf 10 = .ok (.getfield 15, 3) := by decide +kernel
theorem dX3_leadOf_13 : decode cX3_leadOf 13 = .ok (.iload_n 1, 1) := by decide +kernel
theorem dX3_leadOf_14 : decode cX3_leadOf 14 = .ok (.iconst 4, 1) := by decide +kernel
theorem dX3_leadOf_15 : decode cX3_leadOf 15 = .ok (.imul, 1) := by decide +kernel
theorem dX3_leadOf_16 : decode cX3_leadOf 16 = .ok (.iload_n 2, 1) := by decide +kernel
theorem dX3_leadOf_17 : decode cX3_leadOf 17 = .ok (.iadd, 1) := by decide +kernel
theorem dX3_leadOf_18 : decode cX3_leadOf 18 = .ok (.iaload, 1) := by decide +kernel
theorem dX3_leadOf_19 : decode cX3_leadOf 19 = .ok (.goto 4, 3) := by decide +kernel
theorem dX3_leadOf_22 : decode cX3_leadOf 22 = .ok (.iconst (-1), 1) := by decide +kernel
theorem dX3_leadOf_23 : decode cX3_leadOf 23 = .ok (.ireturn, 1) := by decide +kernel
def f_Machine_leadOf (o : Nat) (x1 : Int32) (x2 : Int32) (I : MI) (J : MJ) (Q : Int32 → MI → MJ → Prop) : Prop :=
  f_Machine_hasTake o x1 x2 I J (fun r3 I3 J3 => (if r3 = 0 then Q (-1) I3 J3 else vp_in ((x1 * 4) + x2) 56 ∧ Q (I3 (o + 2) ((x1 * 4) + x2).toNatClampNeg) I3 J3))
set_option maxRecDepth 100000 in
set_option maxHeartbeats 4000000 in
theorem w_Machine_leadOf_b0 {Γ : Ctx} {Q : Int32 → MI → MJ → Prop} {o : Nat} {x1 : Int32} {x2 : Int32}  (X : Cx Γ cX3_leadOf 3 RX3 1) (Y : Rt Γ (Pi Q) (Option.some Jvm.ClassFile.FieldType.int)) (ho : okM o)  {I : MI} {J : MJ} (h : f_Machine_leadOf o x1 x2 I J Q) : Wp Γ 3 0 [(0, .ref (ad Γ o)), (1, .int x1), (2, .int x2)] [] I J := by
  unfold f_Machine_leadOf at h
  refine wp_aload_n X dX3_leadOf_0 0 rfl ?_
  refine wp_iload_n X dX3_leadOf_1 1 rfl ?_
  refine wp_iload_n X dX3_leadOf_2 2 rfl ?_
  refine cv_Machine_hasTake X dX3_leadOf_3 ml_X3_46 ho h (Nat.le_of_ble_eq_true rfl) (by decide) (fun r3 I3 J3 h => ?_)
  refine wp_if_eq (tgt := 22) X dX3_leadOf_6 (by decide) (fun hc => ?_) (fun hc => ?_)
  · have h := ite_t h hc
    refine wp_iconst X dX3_leadOf_22 ic_m1 ?_
    exact wp_iret X Y dX3_leadOf_23 ⟨_, rfl, h⟩
  · have h := ite_f h hc
    refine wp_aload_n X dX3_leadOf_9 0 rfl ?_
    refine gf_X3_15 (o' := o + 2) X ho.1 rfl dX3_leadOf_10 ?_
    refine wp_iload_n X dX3_leadOf_13 1 rfl ?_
    refine wp_iconst X dX3_leadOf_14 ic_4 ?_
    refine wp_imul X dX3_leadOf_15 ?_
    refine wp_iload_n X dX3_leadOf_16 2 rfl ?_
    refine wp_iadd X dX3_leadOf_17 ?_
    obtain ⟨hb18, h⟩ := h
    refine wp_iald X ho.2.2.1 hb18 dX3_leadOf_18 ?_
    refine wp_goto (tgt := 23) X dX3_leadOf_19 (by decide) ?_
    exact wp_iret X Y dX3_leadOf_23 ⟨_, rfl, h⟩

theorem c_Machine_leadOf {l : Launch} {g : GE} (hg : Inj g) {I : MI} {J : MJ} {Q : Int32 → MI → MJ → Prop} {o : Nat} {x1 : Int32} {x2 : Int32} (ho : okM o) (h : f_Machine_leadOf o x1 x2 I J Q) : Cm l g yX3_leadOf cX3_leadOf 3 (Option.some Jvm.ClassFile.FieldType.int) 1 [.ref (g.1 o), .int x1, .int x2] I J (Pi Q) := by
  refine Cm.of (As := fun ad => [.ref (ad o), .int x1, .int x2]) hg pn_X3 (Nat.le_of_ble_eq_true rfl) ?_
  exact (fun Γ _ _ X Y => w_Machine_leadOf_b0 X Y ho h)
theorem cv_Machine_leadOf {Γ : Ctx} {cc : ByteArray} {nL d pc index : Nat} {own : String} {L : List (Nat × Value)} {rest : List Value} {I : MI} {J : MJ} {Q : Int32 → MI → MJ → Prop} {o : Nat} {x1 : Int32} {x2 : Int32} (X : Cx Γ cc nL own d) (hd : decode cc pc = .ok (.invokevirtual index, 3)) (hlink : Cond.methodLink own index yX3_leadOf ∈ TT) (ho : okM o) (h : f_Machine_leadOf o x1 x2 I J Q) (hrest : (rest.map fun v => v.category).sum ≤ 8) (hdd : 1 + 1 ≤ d) (kk : ∀ (r : Int32) (I' : MI) (J' : MJ), Q r I' J' → Wp Γ nL (pc + 3) L (.int r :: rest) I' J') : Wp Γ nL pc L (.int x2 :: .int x1 :: .ref (ad Γ o) :: rest) I J :=
  wp_callV (As := [.int x1, .int x2]) (rest := rest) (T := TX3) (N := 7) X hd hlink mv_X3_leadOf ho.1 (by decide) rfl (c_Machine_leadOf X.inj ho h) rfl rfl hrest hdd (fun v I' J' hv => by obtain ⟨r, rfl, hq⟩ := hv; exact kk r I' J' hq)
theorem dX1_movedState_0 : decode cX1_movedState 0 = .ok (.aload_n 0, 1) := by decide +kernel
theorem dX1_movedState_1 : decode cX1_movedState 1 = .ok (.iload_n 1, 1) := by decide +kernel
theorem dX1_movedState_2 : decode cX1_movedState 2 = .ok (.iload_n 2, 1) := by decide +kernel
theorem dX1_movedState_3 : decode cX1_movedState 3 = .ok (.invokevirtual 79, 3) := by decide +kernel
theorem dX1_movedState_6 : decode cX1_movedState 6 = .ok (.istore_n 3, 1) := by decide +kernel
theorem dX1_movedState_7 : decode cX1_movedState 7 = .ok (.iload_n 3, 1) := by decide +kernel
theorem dX1_movedState_8 : decode cX1_movedState 8 = .ok (.iconst (-1), 1) := by decide +kernel
theorem dX1_movedState_9 : decode cX1_movedState 9 = .ok (.if_icmp .ne 8, 3) := by decide +kernel
theorem dX1_movedState_12 : decode cX1_movedState 12 = .ok (.bipush 14, 2) := by decide +kernel
theorem dX1_movedState_14 : decode cX1_movedState 14 = .ok (.goto 4, 3) := by decide +kernel
theorem dX1_movedState_17 : decode cX1_movedState 17 = .ok (.iload_n 3, 1) := by decide +kernel
theorem dX1_movedState_18 : decode cX1_movedState 18 = .ok (.ireturn, 1) := by decide +kernel
def f_Joining_movedState (x0 : Nat) (x1 : Int32) (x2 : Int32) (I : MI) (J : MJ) (Q : Int32 → MI → MJ → Prop) : Prop :=
  f_Machine_leadOf x0 x1 x2 I J (fun r3 I3 J3 => (if r3 = (-1) then Q 14 I3 J3 else Q r3 I3 J3))
set_option maxRecDepth 100000 in
set_option maxHeartbeats 4000000 in
theorem w_Joining_movedState_b0 {Γ : Ctx} {Q : Int32 → MI → MJ → Prop} {x0 : Nat} {x1 : Int32} {x2 : Int32}  (X : Cx Γ cX1_movedState 4 RX1 2) (Y : Rt Γ (Pi Q) (Option.some Jvm.ClassFile.FieldType.int)) (hx0 : okM x0)  {I : MI} {J : MJ} (h : f_Joining_movedState x0 x1 x2 I J Q) : Wp Γ 4 0 [(0, .ref (ad Γ x0)), (1, .int x1), (2, .int x2)] [] I J := by
  unfold f_Joining_movedState at h
  refine wp_aload_n X dX1_movedState_0 0 rfl ?_
  refine wp_iload_n X dX1_movedState_1 1 rfl ?_
  refine wp_iload_n X dX1_movedState_2 2 rfl ?_
  refine cv_Machine_leadOf X dX1_movedState_3 ml_X1_79 hx0 h (Nat.le_of_ble_eq_true rfl) (by decide) (fun r3 I3 J3 h => ?_)
  refine wp_istore_n (L' := [(3, .int r3), (0, .ref (ad Γ x0)), (1, .int x1), (2, .int x2)]) X dX1_movedState_6 rfl (by decide) rfl ?_
  refine wp_iload_n X dX1_movedState_7 0 rfl ?_
  refine wp_iconst X dX1_movedState_8 ic_m1 ?_
  refine wp_icmp_ne (tgt := 17) X dX1_movedState_9 (by decide) (fun hc => ?_) (fun hc => ?_)
  · have h := ite_f h hc
    refine wp_iload_n X dX1_movedState_17 0 rfl ?_
    exact wp_iret X Y dX1_movedState_18 ⟨_, rfl, h⟩
  · have h := ite_t h hc
    refine wp_bipush X dX1_movedState_12 bi_14 ?_
    refine wp_goto (tgt := 18) X dX1_movedState_14 (by decide) ?_
    exact wp_iret X Y dX1_movedState_18 ⟨_, rfl, h⟩

theorem c_Joining_movedState {l : Launch} {g : GE} (hg : Inj g) {I : MI} {J : MJ} {Q : Int32 → MI → MJ → Prop} {x0 : Nat} {x1 : Int32} {x2 : Int32} (hx0 : okM x0) (h : f_Joining_movedState x0 x1 x2 I J Q) : Cm l g yX1_movedState cX1_movedState 4 (Option.some Jvm.ClassFile.FieldType.int) 2 [.ref (g.1 x0), .int x1, .int x2] I J (Pi Q) := by
  refine Cm.of (As := fun ad => [.ref (ad x0), .int x1, .int x2]) hg pn_X1 (Nat.le_of_ble_eq_true rfl) ?_
  exact (fun Γ _ _ X Y => w_Joining_movedState_b0 X Y hx0 h)
theorem cs_Joining_movedState {Γ : Ctx} {cc : ByteArray} {nL d pc index : Nat} {own : String} {L : List (Nat × Value)} {rest : List Value} {I : MI} {J : MJ} {Q : Int32 → MI → MJ → Prop} {x0 : Nat} {x1 : Int32} {x2 : Int32} (X : Cx Γ cc nL own d) (hd : decode cc pc = .ok (.invokestatic index, 3)) (hlink : Cond.methodLink own index yX1_movedState ∈ TT) (hx0 : okM x0) (h : f_Joining_movedState x0 x1 x2 I J Q) (hrest : (rest.map fun v => v.category).sum ≤ 8) (hdd : 2 + 1 ≤ d) (kk : ∀ (r : Int32) (I' : MI) (J' : MJ), Q r I' J' → Wp Γ nL (pc + 3) L (.int r :: rest) I' J') : Wp Γ nL pc L (.int x2 :: .int x1 :: .ref (ad Γ x0) :: rest) I J :=
  wp_callS (As := [.ref (ad Γ x0), .int x1, .int x2]) (rest := rest) X hd hlink mv_X1_movedState (c_Joining_movedState X.inj hx0 h) rfl rfl hrest hdd (fun v I' J' hv => by obtain ⟨r, rfl, hq⟩ := hv; exact kk r I' J' hq)
theorem dX1_movedSet_0 : decode cX1_movedSet 0 = .ok (.iconst 0, 1) := by decide +kernel
theorem dX1_movedSet_1 : decode cX1_movedSet 1 = .ok (.istore_n 3, 1) := by decide +kernel
theorem dX1_movedSet_2 : decode cX1_movedSet 2 = .ok (.iconst 0, 1) := by decide +kernel
theorem dX1_movedSet_3 : decode cX1_movedSet 3 = .ok (.istore 4, 2) := by decide +kernel
theorem dX1_movedSet_5 : decode cX1_movedSet 5 = .ok (.iload 4, 2) := by decide +kernel
theorem dX1_movedSet_7 : decode cX1_movedSet 7 = .ok (.aload_n 0, 1) := by decide +kernel
theorem dX1_movedSet_8 : decode cX1_movedSet 8 = .ok (.getfield 35, 3) := by decide +kernel
theorem dX1_movedSet_11 : decode cX1_movedSet 11 = .ok (.if_icmp .ge 44, 3) := by decide +kernel
theorem dX1_movedSet_14 : decode cX1_movedSet 14 = .ok (.iload 4, 2) := by decide +kernel
theorem dX1_movedSet_16 : decode cX1_movedSet 16 = .ok (.iload_n 1, 1) := by decide +kernel
theorem dX1_movedSet_17 : decode cX1_movedSet 17 = .ok (.invokestatic 75, 3) := by decide +kernel
theorem dX1_movedSet_20 : decode cX1_movedSet 20 = .ok (.ifCond .eq 13, 3) := by decide +kernel
theorem dX1_movedSet_23 : decode cX1_movedSet 23 = .ok (.aload_n 0, 1) := by decide +kernel
theorem dX1_movedSet_24 : decode cX1_movedSet 24 = .ok (.iload 4, 2) := by decide +kernel
theorem dX1_movedSet_26 : decode cX1_movedSet 26 = .ok (.iload_n 2, 1) := by decide +kernel
theorem dX1_movedSet_27 : decode cX1_movedSet 27 = .ok (.invokevirtual 79, 3) := by decide +kernel
theorem dX1_movedSet_30 : decode cX1_movedSet 30 = .ok (.goto 4, 3) := by decide +kernel
theorem dX1_movedSet_33 : decode cX1_movedSet 33 = .ok (.iconst (-1), 1) := by decide +kernel
theorem dX1_movedSet_34 : decode cX1_movedSet 34 = .ok (.istore 5, 2) := by decide +kernel
theorem dX1_movedSet_36 : decode cX1_movedSet 36 = .ok (.iload 5, 2) := by decide +kernel
theorem dX1_movedSet_38 : decode cX1_movedSet 38 = .ok (.iconst (-1), 1) := by decide +kernel
theorem dX1_movedSet_39 : decode cX1_movedSet 39 = .ok (.if_icmp .eq 10, 3) := by decide +kernel
theorem dX1_movedSet_42 : decode cX1_movedSet 42 = .ok (.iload_n 3, 1) := by decide +kernel
theorem dX1_movedSet_43 : decode cX1_movedSet 43 = .ok (.iconst 1, 1) := by decide +kernel
theorem dX1_movedSet_44 : decode cX1_movedSet 44 = .ok (.iload 5, 2) := by decide +kernel
theorem dX1_movedSet_46 : decode cX1_movedSet 46 = .ok (.ishl, 1) := by decide +kernel
theorem dX1_movedSet_47 : decode cX1_movedSet 47 = .ok (.ior, 1) := by decide +kernel
theorem dX1_movedSet_48 : decode cX1_movedSet 48 = .ok (.istore_n 3, 1) := by decide +kernel
theorem dX1_movedSet_49 : decode cX1_movedSet 49 = .ok (.iinc 4 1, 3) := by decide +kernel
theorem dX1_movedSet_52 : decode cX1_movedSet 52 = .ok (.goto (-47), 3) := by decide +kernel
theorem dX1_movedSet_55 : decode cX1_movedSet 55 = .ok (.iload_n 3, 1) := by decide +kernel
theorem dX1_movedSet_56 : decode cX1_movedSet 56 = .ok (.ireturn, 1) := by decide +kernel
def f_Joining_movedSet_b49 (x3 : Int32) (x4 : Int32) (kh : Int32 → Int32 → MI → MJ → Prop) (I : MI) (J : MJ) : Prop :=
  ∀ t49 : Int32, t49 = x4 + 1 → kh x3 t49 I J
def f_Joining_movedSet_b34 (x3 : Int32) (x4 : Int32) (s0 : Int32) (kh : Int32 → Int32 → MI → MJ → Prop) (I : MI) (J : MJ) : Prop :=
  (if s0 = (-1) then f_Joining_movedSet_b49 x3 x4 kh I J else ∀ t48 : Int32, t48 = x3 ||| (1 <<< (s0 &&& 31)) → f_Joining_movedSet_b49 t48 x4 kh I J)
def f_Joining_movedSet_L5 (x0 : Nat) (x1 : Int32) (x2 : Int32) (k55 : Int32 → MI → MJ → Prop) : Nat → Int32 → Int32 → MI → MJ → Prop
  | 0, _, _, _, _ => False
  | nf5 + 1, x3, x4, I, J =>
  (if (I x0 1) ≤ x4 then k55 x3 I J else f_Joining_isIn x4 x1 I J (fun r17 I17 J17 => (if r17 = 0 then f_Joining_movedSet_b34 x3 x4 (-1) (f_Joining_movedSet_L5 x0 x1 x2 k55 nf5) I17 J17 else f_Machine_leadOf x0 x4 x2 I17 J17 (fun r27 I27 J27 => f_Joining_movedSet_b34 x3 x4 r27 (f_Joining_movedSet_L5 x0 x1 x2 k55 nf5) I27 J27))))
def f_Joining_movedSet (x0 : Nat) (x1 : Int32) (x2 : Int32) (I : MI) (J : MJ) (Q : Int32 → MI → MJ → Prop) : Prop :=
  ∃ n, f_Joining_movedSet_L5 x0 x1 x2 (fun (z55_x3 : Int32) (I : MI) (J : MJ) => Q z55_x3 I J) n 0 0 I J
set_option maxRecDepth 100000 in
set_option maxHeartbeats 4000000 in
theorem w_Joining_movedSet_b49 {Γ : Ctx} {Q : Int32 → MI → MJ → Prop} {x0 : Nat} {x1 : Int32} {x2 : Int32} {x3 : Int32} {x4 : Int32} {kh : Int32 → Int32 → MI → MJ → Prop} (X : Cx Γ cX1_movedSet 6 RX1 2) (Y : Rt Γ (Pi Q) (Option.some Jvm.ClassFile.FieldType.int)) (hx0 : okM x0) (hkh : ∀ (x3 : Int32) (x4 : Int32) (I : MI) (J : MJ), kh x3 x4 I J → Wp Γ 6 5 [(0, .ref (ad Γ x0)), (1, .int x1), (2, .int x2), (3, .int x3), (4, .int x4)] [] I J) {I : MI} {J : MJ} (h : f_Joining_movedSet_b49 x3 x4 kh I J) : Wp Γ 6 49 [(0, .ref (ad Γ x0)), (1, .int x1), (2, .int x2), (3, .int x3), (4, .int x4)] [] I J := by
  unfold f_Joining_movedSet_b49 at h
  obtain ⟨t49, et49⟩ : ∃ y : Int32, y = x4 + 1 := ⟨_, rfl⟩
  have h := h t49 et49
  refine wp_iinc (L' := [(4, .int t49), (0, .ref (ad Γ x0)), (1, .int x1), (2, .int x2), (3, .int x3)]) X dX1_movedSet_49 4 rfl (ii_1 et49) (by decide) rfl ?_
  refine wp_goto (tgt := 5) X dX1_movedSet_52 (by decide) ?_
  refine wp_sub X [1, 2, 3, 4, 0] rfl ?_
  exact hkh _ _ _ _ h

set_option maxRecDepth 100000 in
set_option maxHeartbeats 4000000 in
theorem w_Joining_movedSet_b34 {Γ : Ctx} {Q : Int32 → MI → MJ → Prop} {x0 : Nat} {x1 : Int32} {x2 : Int32} {x3 : Int32} {x4 : Int32} {s0 : Int32} {kh : Int32 → Int32 → MI → MJ → Prop} (X : Cx Γ cX1_movedSet 6 RX1 2) (Y : Rt Γ (Pi Q) (Option.some Jvm.ClassFile.FieldType.int)) (hx0 : okM x0) (hkh : ∀ (x3 : Int32) (x4 : Int32) (I : MI) (J : MJ), kh x3 x4 I J → Wp Γ 6 5 [(0, .ref (ad Γ x0)), (1, .int x1), (2, .int x2), (3, .int x3), (4, .int x4)] [] I J) {I : MI} {J : MJ} (h : f_Joining_movedSet_b34 x3 x4 s0 kh I J) : Wp Γ 6 34 [(0, .ref (ad Γ x0)), (1, .int x1), (2, .int x2), (3, .int x3), (4, .int x4)] [.int s0] I J := by
  unfold f_Joining_movedSet_b34 at h
  refine wp_istore (L' := [(5, .int s0), (0, .ref (ad Γ x0)), (1, .int x1), (2, .int x2), (3, .int x3), (4, .int x4)]) X dX1_movedSet_34 (by decide) rfl ?_
  refine wp_iload X dX1_movedSet_36 0 rfl ?_
  refine wp_iconst X dX1_movedSet_38 ic_m1 ?_
  refine wp_icmp_eq (tgt := 49) X dX1_movedSet_39 (by decide) (fun hc => ?_) (fun hc => ?_)
  · have h := ite_t h hc
    refine wp_sub X [1, 2, 3, 4, 5] rfl ?_
    exact w_Joining_movedSet_b49 X Y hx0 hkh h
  · have h := ite_f h hc
    refine wp_iload_n X dX1_movedSet_42 4 rfl ?_
    refine wp_iconst X dX1_movedSet_43 ic_1 ?_
    refine wp_iload X dX1_movedSet_44 0 rfl ?_
    refine wp_ishl X dX1_movedSet_46 ?_
    refine wp_ior X dX1_movedSet_47 ?_
    refine wp_topi (fun t48 et48 => ?_)
    have h := h t48 et48
    refine wp_istore_n (L' := [(3, .int t48), (5, .int s0), (0, .ref (ad Γ x0)), (1, .int x1), (2, .int x2), (4, .int x4)]) X dX1_movedSet_48 rfl (by decide) rfl ?_
    refine wp_sub X [2, 3, 4, 0, 5] rfl ?_
    exact w_Joining_movedSet_b49 X Y hx0 hkh h

set_option maxRecDepth 100000 in
set_option maxHeartbeats 4000000 in
theorem w_Joining_movedSet_L5 {Γ : Ctx} {Q : Int32 → MI → MJ → Prop} {x0 : Nat} {x1 : Int32} {x2 : Int32} {k55 : Int32 → MI → MJ → Prop} (X : Cx Γ cX1_movedSet 6 RX1 2) (Y : Rt Γ (Pi Q) (Option.some Jvm.ClassFile.FieldType.int)) (hx0 : okM x0) (hk55 : ∀ (x3 : Int32) (I : MI) (J : MJ), k55 x3 I J → Wp Γ 6 55 [(3, .int x3)] [] I J) : ∀ (n : Nat) (x3 : Int32) (x4 : Int32) (I : MI) (J : MJ), f_Joining_movedSet_L5 x0 x1 x2 k55 n x3 x4 I J → Wp Γ 6 5 [(0, .ref (ad Γ x0)), (1, .int x1), (2, .int x2), (3, .int x3), (4, .int x4)] [] I J := by
  intro n
  induction n with
  | zero => intro x3 x4 I J h; exact absurd h (by simp [f_Joining_movedSet_L5])
  | succ n ih =>
  intro x3 x4 I J h
  unfold f_Joining_movedSet_L5 at h
  refine wp_iload X dX1_movedSet_5 4 rfl ?_
  refine wp_aload_n X dX1_movedSet_7 0 rfl ?_
  refine gf_X1_35 X hx0.1 dX1_movedSet_8 ?_
  refine wp_icmp_ge (tgt := 55) X dX1_movedSet_11 (by decide) (fun hc => ?_) (fun hc => ?_)
  · have h := ite_t h hc
    refine wp_sub X [3] rfl ?_
    exact hk55 _ _ _ h
  · have h := ite_f h hc
    refine wp_iload X dX1_movedSet_14 4 rfl ?_
    refine wp_iload_n X dX1_movedSet_16 1 rfl ?_
    refine cs_Joining_isIn X dX1_movedSet_17 ml_X1_75  h (Nat.le_of_ble_eq_true rfl) (by decide) (fun r17 I17 J17 h => ?_)
    refine wp_if_eq (tgt := 33) X dX1_movedSet_20 (by decide) (fun hc => ?_) (fun hc => ?_)
    · have h := ite_t h hc
      refine wp_iconst X dX1_movedSet_33 ic_m1 ?_
      exact w_Joining_movedSet_b34 X Y hx0 ih h
    · have h := ite_f h hc
      refine wp_aload_n X dX1_movedSet_23 0 rfl ?_
      refine wp_iload X dX1_movedSet_24 4 rfl ?_
      refine wp_iload_n X dX1_movedSet_26 2 rfl ?_
      refine cv_Machine_leadOf X dX1_movedSet_27 ml_X1_79 hx0 h (Nat.le_of_ble_eq_true rfl) (by decide) (fun r27 I27 J27 h => ?_)
      refine wp_goto (tgt := 34) X dX1_movedSet_30 (by decide) ?_
      exact w_Joining_movedSet_b34 X Y hx0 ih h

set_option maxRecDepth 100000 in
set_option maxHeartbeats 4000000 in
theorem w_Joining_movedSet_b0 {Γ : Ctx} {Q : Int32 → MI → MJ → Prop} {x0 : Nat} {x1 : Int32} {x2 : Int32}  (X : Cx Γ cX1_movedSet 6 RX1 2) (Y : Rt Γ (Pi Q) (Option.some Jvm.ClassFile.FieldType.int)) (hx0 : okM x0)  {I : MI} {J : MJ} (h : f_Joining_movedSet x0 x1 x2 I J Q) : Wp Γ 6 0 [(0, .ref (ad Γ x0)), (1, .int x1), (2, .int x2)] [] I J := by
  unfold f_Joining_movedSet at h
  refine wp_iconst X dX1_movedSet_0 ic_0 ?_
  refine wp_istore_n (L' := [(3, .int 0), (0, .ref (ad Γ x0)), (1, .int x1), (2, .int x2)]) X dX1_movedSet_1 rfl (by decide) rfl ?_
  refine wp_iconst X dX1_movedSet_2 ic_0 ?_
  refine wp_istore (L' := [(4, .int 0), (3, .int 0), (0, .ref (ad Γ x0)), (1, .int x1), (2, .int x2)]) X dX1_movedSet_3 (by decide) rfl ?_
  obtain ⟨n, h⟩ := h
  refine wp_sub X [2, 3, 4, 1, 0] rfl ?_
  refine w_Joining_movedSet_L5 X Y hx0 ?_ n _ _ _ _ h
  · intro z55_x3 I J h
    refine wp_iload_n X dX1_movedSet_55 0 rfl ?_
    exact wp_iret X Y dX1_movedSet_56 ⟨_, rfl, h⟩

theorem c_Joining_movedSet {l : Launch} {g : GE} (hg : Inj g) {I : MI} {J : MJ} {Q : Int32 → MI → MJ → Prop} {x0 : Nat} {x1 : Int32} {x2 : Int32} (hx0 : okM x0) (h : f_Joining_movedSet x0 x1 x2 I J Q) : Cm l g yX1_movedSet cX1_movedSet 6 (Option.some Jvm.ClassFile.FieldType.int) 2 [.ref (g.1 x0), .int x1, .int x2] I J (Pi Q) := by
  refine Cm.of (As := fun ad => [.ref (ad x0), .int x1, .int x2]) hg pn_X1 (Nat.le_of_ble_eq_true rfl) ?_
  exact (fun Γ _ _ X Y => w_Joining_movedSet_b0 X Y hx0 h)
theorem cs_Joining_movedSet {Γ : Ctx} {cc : ByteArray} {nL d pc index : Nat} {own : String} {L : List (Nat × Value)} {rest : List Value} {I : MI} {J : MJ} {Q : Int32 → MI → MJ → Prop} {x0 : Nat} {x1 : Int32} {x2 : Int32} (X : Cx Γ cc nL own d) (hd : decode cc pc = .ok (.invokestatic index, 3)) (hlink : Cond.methodLink own index yX1_movedSet ∈ TT) (hx0 : okM x0) (h : f_Joining_movedSet x0 x1 x2 I J Q) (hrest : (rest.map fun v => v.category).sum ≤ 8) (hdd : 2 + 1 ≤ d) (kk : ∀ (r : Int32) (I' : MI) (J' : MJ), Q r I' J' → Wp Γ nL (pc + 3) L (.int r :: rest) I' J') : Wp Γ nL pc L (.int x2 :: .int x1 :: .ref (ad Γ x0) :: rest) I J :=
  wp_callS (As := [.ref (ad Γ x0), .int x1, .int x2]) (rest := rest) X hd hlink mv_X1_movedSet (c_Joining_movedSet X.inj hx0 h) rfl rfl hrest hdd (fun v I' J' hv => by obtain ⟨r, rfl, hq⟩ := hv; exact kk r I' J' hq)
theorem dX1_setLedInto_0 : decode cX1_setLedInto 0 = .ok (.iconst 0, 1) := by decide +kernel
theorem dX1_setLedInto_1 : decode cX1_setLedInto 1 = .ok (.istore_n 3, 1) := by decide +kernel
theorem dX1_setLedInto_2 : decode cX1_setLedInto 2 = .ok (.iconst 0, 1) := by decide +kernel
theorem dX1_setLedInto_3 : decode cX1_setLedInto 3 = .ok (.istore 4, 2) := by decide +kernel
theorem dX1_setLedInto_5 : decode cX1_setLedInto 5 = .ok (.iload 4, 2) := by decide +kernel
theorem dX1_setLedInto_7 : decode cX1_setLedInto 7 = .ok (.aload_n 0, 1) := by decide +kernel
theorem dX1_setLedInto_8 : decode cX1_setLedInto 8 = .ok (.getfield 12, 3) := by decide +kernel
theorem dX1_setLedInto_11 : decode cX1_setLedInto 11 = .ok (.getfield 35, 3) := by decide +kernel
theorem dX1_setLedInto_14 : decode cX1_setLedInto 14 = .ok (.if_icmp .ge 43, 3) := by decide +kernel
theorem dX1_setLedInto_17 : decode cX1_setLedInto 17 = .ok (.aload_n 0, 1) := by decide +kernel
theorem dX1_setLedInto_18 : decode cX1_setLedInto 18 = .ok (.getfield 12, 3) := by decide +kernel
theorem dX1_setLedInto_21 : decode cX1_setLedInto 21 = .ok (.iload 4, 2) := by decide +kernel
theorem dX1_setLedInto_23 : decode cX1_setLedInto 23 = .ok (.iload_n 2, 1) := by decide +kernel
theorem dX1_setLedInto_24 : decode cX1_setLedInto 24 = .ok (.invokevirtual 79, 3) := by decide +kernel
theorem dX1_setLedInto_27 : decode cX1_setLedInto 27 = .ok (.istore 5, 2) := by decide +kernel
theorem dX1_setLedInto_29 : decode cX1_setLedInto 29 = .ok (.iload 5, 2) := by decide +kernel
theorem dX1_setLedInto_31 : decode cX1_setLedInto 31 = .ok (.iconst (-1), 1) := by decide +kernel
theorem dX1_setLedInto_32 : decode cX1_setLedInto 32 = .ok (.if_icmp .eq 19, 3) := by decide +kernel
theorem dX1_setLedInto_35 : decode cX1_setLedInto 35 = .ok (.iload 5, 2) := by decide +kernel
theorem dX1_setLedInto_37 : decode cX1_setLedInto 37 = .ok (.iload_n 1, 1) := by decide +kernel
theorem dX1_setLedInto_38 : decode cX1_setLedInto 38 = .ok (.invokestatic 75, 3) := by decide +kernel
theorem dX1_setLedInto_41 : decode cX1_setLedInto 41 = .ok (.ifCond .eq 10, 3) := by decide +kernel
theorem dX1_setLedInto_44 : decode cX1_setLedInto 44 = .ok (.iload_n 3, 1) := by decide +kernel
theorem dX1_setLedInto_45 : decode cX1_setLedInto 45 = .ok (.iconst 1, 1) := by decide +kernel
theorem dX1_setLedInto_46 : decode cX1_setLedInto 46 = .ok (.iload 4, 2) := by decide +kernel
theorem dX1_setLedInto_48 : decode cX1_setLedInto 48 = .ok (.ishl, 1) := by decide +kernel
theorem dX1_setLedInto_49 : decode cX1_setLedInto 49 = .ok (.ior, 1) := by decide +kernel
theorem dX1_setLedInto_50 : decode cX1_setLedInto 50 = .ok (.istore_n 3, 1) := by decide +kernel
theorem dX1_setLedInto_51 : decode cX1_setLedInto 51 = .ok (.iinc 4 1, 3) := by decide +kernel
theorem dX1_setLedInto_54 : decode cX1_setLedInto 54 = .ok (.goto (-49), 3) := by decide +kernel
theorem dX1_setLedInto_57 : decode cX1_setLedInto 57 = .ok (.iload_n 3, 1) := by decide +kernel
theorem dX1_setLedInto_58 : decode cX1_setLedInto 58 = .ok (.ireturn, 1) := by decide +kernel
def f_Joining_setLedInto_b51 (x3 : Int32) (x4 : Int32) (kh : Int32 → Int32 → MI → MJ → Prop) (I : MI) (J : MJ) : Prop :=
  ∀ t51 : Int32, t51 = x4 + 1 → kh x3 t51 I J
def f_Joining_setLedInto_L5 (x1 : Int32) (x2 : Int32) (k57 : Int32 → MI → MJ → Prop) : Nat → Int32 → Int32 → MI → MJ → Prop
  | 0, _, _, _, _ => False
  | nf5 + 1, x3, x4, I, J =>
  (if (I 13 1) ≤ x4 then k57 x3 I J else f_Machine_leadOf 13 x4 x2 I J (fun r24 I24 J24 => (if r24 = (-1) then f_Joining_setLedInto_b51 x3 x4 (f_Joining_setLedInto_L5 x1 x2 k57 nf5) I24 J24 else f_Joining_isIn r24 x1 I24 J24 (fun r38 I38 J38 => (if r38 = 0 then f_Joining_setLedInto_b51 x3 x4 (f_Joining_setLedInto_L5 x1 x2 k57 nf5) I38 J38 else ∀ t50 : Int32, t50 = x3 ||| (1 <<< (x4 &&& 31)) → f_Joining_setLedInto_b51 t50 x4 (f_Joining_setLedInto_L5 x1 x2 k57 nf5) I38 J38)))))
def f_Joining_setLedInto (x1 : Int32) (x2 : Int32) (I : MI) (J : MJ) (Q : Int32 → MI → MJ → Prop) : Prop :=
  ∃ n, f_Joining_setLedInto_L5 x1 x2 (fun (z57_x3 : Int32) (I : MI) (J : MJ) => Q z57_x3 I J) n 0 0 I J
set_option maxRecDepth 100000 in
set_option maxHeartbeats 4000000 in
theorem w_Joining_setLedInto_b51 {Γ : Ctx} {Q : Int32 → MI → MJ → Prop} {x1 : Int32} {x2 : Int32} {x3 : Int32} {x4 : Int32} {kh : Int32 → Int32 → MI → MJ → Prop} (X : Cx Γ cX1_setLedInto 6 RX1 2) (Y : Rt Γ (Pi Q) (Option.some Jvm.ClassFile.FieldType.int))  (hkh : ∀ (x3 : Int32) (x4 : Int32) (I : MI) (J : MJ), kh x3 x4 I J → Wp Γ 6 5 [(0, .ref (ad Γ 12)), (1, .int x1), (2, .int x2), (3, .int x3), (4, .int x4)] [] I J) {I : MI} {J : MJ} (h : f_Joining_setLedInto_b51 x3 x4 kh I J) : Wp Γ 6 51 [(0, .ref (ad Γ 12)), (1, .int x1), (2, .int x2), (3, .int x3), (4, .int x4)] [] I J := by
  unfold f_Joining_setLedInto_b51 at h
  obtain ⟨t51, et51⟩ : ∃ y : Int32, y = x4 + 1 := ⟨_, rfl⟩
  have h := h t51 et51
  refine wp_iinc (L' := [(4, .int t51), (0, .ref (ad Γ 12)), (1, .int x1), (2, .int x2), (3, .int x3)]) X dX1_setLedInto_51 4 rfl (ii_1 et51) (by decide) rfl ?_
  refine wp_goto (tgt := 5) X dX1_setLedInto_54 (by decide) ?_
  refine wp_sub X [1, 2, 3, 4, 0] rfl ?_
  exact hkh _ _ _ _ h

set_option maxRecDepth 100000 in
set_option maxHeartbeats 4000000 in
theorem w_Joining_setLedInto_L5 {Γ : Ctx} {Q : Int32 → MI → MJ → Prop} {x1 : Int32} {x2 : Int32} {k57 : Int32 → MI → MJ → Prop} (X : Cx Γ cX1_setLedInto 6 RX1 2) (Y : Rt Γ (Pi Q) (Option.some Jvm.ClassFile.FieldType.int))  (hk57 : ∀ (x3 : Int32) (I : MI) (J : MJ), k57 x3 I J → Wp Γ 6 57 [(3, .int x3)] [] I J) : ∀ (n : Nat) (x3 : Int32) (x4 : Int32) (I : MI) (J : MJ), f_Joining_setLedInto_L5 x1 x2 k57 n x3 x4 I J → Wp Γ 6 5 [(0, .ref (ad Γ 12)), (1, .int x1), (2, .int x2), (3, .int x3), (4, .int x4)] [] I J := by
  intro n
  induction n with
  | zero => intro x3 x4 I J h; exact absurd h (by simp [f_Joining_setLedInto_L5])
  | succ n ih =>
  intro x3 x4 I J h
  unfold f_Joining_setLedInto_L5 at h
  refine wp_iload X dX1_setLedInto_5 4 rfl ?_
  refine wp_aload_n X dX1_setLedInto_7 0 rfl ?_
  refine gf_X1_12 (o' := 13) X sh_12 rfl dX1_setLedInto_8 ?_
  refine gf_X1_35 X okM_13.1 dX1_setLedInto_11 ?_
  refine wp_icmp_ge (tgt := 57) X dX1_setLedInto_14 (by decide) (fun hc => ?_) (fun hc => ?_)
  · have h := ite_t h hc
    refine wp_sub X [3] rfl ?_
    exact hk57 _ _ _ h
  · have h := ite_f h hc
    refine wp_aload_n X dX1_setLedInto_17 0 rfl ?_
    refine gf_X1_12 (o' := 13) X sh_12 rfl dX1_setLedInto_18 ?_
    refine wp_iload X dX1_setLedInto_21 4 rfl ?_
    refine wp_iload_n X dX1_setLedInto_23 2 rfl ?_
    refine cv_Machine_leadOf X dX1_setLedInto_24 ml_X1_79 okM_13 h (Nat.le_of_ble_eq_true rfl) (by decide) (fun r24 I24 J24 h => ?_)
    refine wp_istore (L' := [(5, .int r24), (0, .ref (ad Γ 12)), (1, .int x1), (2, .int x2), (3, .int x3), (4, .int x4)]) X dX1_setLedInto_27 (by decide) rfl ?_
    refine wp_iload X dX1_setLedInto_29 0 rfl ?_
    refine wp_iconst X dX1_setLedInto_31 ic_m1 ?_
    refine wp_icmp_eq (tgt := 51) X dX1_setLedInto_32 (by decide) (fun hc => ?_) (fun hc => ?_)
    · have h := ite_t h hc
      refine wp_sub X [1, 2, 3, 4, 5] rfl ?_
      exact w_Joining_setLedInto_b51 X Y ih h
    · have h := ite_f h hc
      refine wp_iload X dX1_setLedInto_35 0 rfl ?_
      refine wp_iload_n X dX1_setLedInto_37 2 rfl ?_
      refine cs_Joining_isIn X dX1_setLedInto_38 ml_X1_75  h (Nat.le_of_ble_eq_true rfl) (by decide) (fun r38 I38 J38 h => ?_)
      refine wp_if_eq (tgt := 51) X dX1_setLedInto_41 (by decide) (fun hc => ?_) (fun hc => ?_)
      · have h := ite_t h hc
        refine wp_sub X [1, 2, 3, 4, 5] rfl ?_
        exact w_Joining_setLedInto_b51 X Y ih h
      · have h := ite_f h hc
        refine wp_iload_n X dX1_setLedInto_44 4 rfl ?_
        refine wp_iconst X dX1_setLedInto_45 ic_1 ?_
        refine wp_iload X dX1_setLedInto_46 5 rfl ?_
        refine wp_ishl X dX1_setLedInto_48 ?_
        refine wp_ior X dX1_setLedInto_49 ?_
        refine wp_topi (fun t50 et50 => ?_)
        have h := h t50 et50
        refine wp_istore_n (L' := [(3, .int t50), (5, .int r24), (0, .ref (ad Γ 12)), (1, .int x1), (2, .int x2), (4, .int x4)]) X dX1_setLedInto_50 rfl (by decide) rfl ?_
        refine wp_sub X [2, 3, 4, 0, 5] rfl ?_
        exact w_Joining_setLedInto_b51 X Y ih h

set_option maxRecDepth 100000 in
set_option maxHeartbeats 4000000 in
theorem w_Joining_setLedInto_b0 {Γ : Ctx} {Q : Int32 → MI → MJ → Prop} {x1 : Int32} {x2 : Int32}  (X : Cx Γ cX1_setLedInto 6 RX1 2) (Y : Rt Γ (Pi Q) (Option.some Jvm.ClassFile.FieldType.int))   {I : MI} {J : MJ} (h : f_Joining_setLedInto x1 x2 I J Q) : Wp Γ 6 0 [(0, .ref (ad Γ 12)), (1, .int x1), (2, .int x2)] [] I J := by
  unfold f_Joining_setLedInto at h
  refine wp_iconst X dX1_setLedInto_0 ic_0 ?_
  refine wp_istore_n (L' := [(3, .int 0), (0, .ref (ad Γ 12)), (1, .int x1), (2, .int x2)]) X dX1_setLedInto_1 rfl (by decide) rfl ?_
  refine wp_iconst X dX1_setLedInto_2 ic_0 ?_
  refine wp_istore (L' := [(4, .int 0), (3, .int 0), (0, .ref (ad Γ 12)), (1, .int x1), (2, .int x2)]) X dX1_setLedInto_3 (by decide) rfl ?_
  obtain ⟨n, h⟩ := h
  refine wp_sub X [2, 3, 4, 1, 0] rfl ?_
  refine w_Joining_setLedInto_L5 X Y  ?_ n _ _ _ _ h
  · intro z57_x3 I J h
    refine wp_iload_n X dX1_setLedInto_57 0 rfl ?_
    exact wp_iret X Y dX1_setLedInto_58 ⟨_, rfl, h⟩

theorem c_Joining_setLedInto {l : Launch} {g : GE} (hg : Inj g) {I : MI} {J : MJ} {Q : Int32 → MI → MJ → Prop} {x1 : Int32} {x2 : Int32}  (h : f_Joining_setLedInto x1 x2 I J Q) : Cm l g yX1_setLedInto cX1_setLedInto 6 (Option.some Jvm.ClassFile.FieldType.int) 2 [.ref (g.1 12), .int x1, .int x2] I J (Pi Q) := by
  refine Cm.of (As := fun ad => [.ref (ad 12), .int x1, .int x2]) hg pn_X1 (Nat.le_of_ble_eq_true rfl) ?_
  exact (fun Γ _ _ X Y => w_Joining_setLedInto_b0 X Y  h)
theorem cv_Joining_setLedInto {Γ : Ctx} {cc : ByteArray} {nL d pc index : Nat} {own : String} {L : List (Nat × Value)} {rest : List Value} {I : MI} {J : MJ} {Q : Int32 → MI → MJ → Prop} {x1 : Int32} {x2 : Int32} (X : Cx Γ cc nL own d) (hd : decode cc pc = .ok (.invokevirtual index, 3)) (hlink : Cond.methodLink own index yX1_setLedInto ∈ TT)  (h : f_Joining_setLedInto x1 x2 I J Q) (hrest : (rest.map fun v => v.category).sum ≤ 8) (hdd : 2 + 1 ≤ d) (kk : ∀ (r : Int32) (I' : MI) (J' : MJ), Q r I' J' → Wp Γ nL (pc + 3) L (.int r :: rest) I' J') : Wp Γ nL pc L (.int x2 :: .int x1 :: .ref (ad Γ 12) :: rest) I J :=
  wp_callV (As := [.int x1, .int x2]) (rest := rest) (T := TX1) (N := 5) X hd hlink mv_X1_setLedInto sh_12 (by decide) rfl (c_Joining_setLedInto X.inj  h) rfl rfl hrest hdd (fun v I' J' hv => by obtain ⟨r, rfl, hq⟩ := hv; exact kk r I' J' hq)
theorem dX1_withFirst_0 : decode cX1_withFirst 0 = .ok (.iload_n 1, 1) := by decide +kernel
theorem dX1_withFirst_1 : decode cX1_withFirst 1 = .ok (.aload_n 0, 1) := by decide +kernel
theorem dX1_withFirst_2 : decode cX1_withFirst 2 = .ok (.getfield 29, 3) := by decide +kernel
theorem dX1_withFirst_5 : decode cX1_withFirst 5 = .ok (.iand, 1) := by decide +kernel
theorem dX1_withFirst_6 : decode cX1_withFirst 6 = .ok (.ifCond .eq 9, 3) := by decide +kernel
theorem dX1_withFirst_9 : decode cX1_withFirst 9 = .ok (.iload_n 1, 1) := by decide +kernel
theorem dX1_withFirst_10 : decode cX1_withFirst 10 = .ok (.iconst 1, 1) := by decide +kernel
theorem dX1_withFirst_11 : decode cX1_withFirst 11 = .ok (.ior, 1) := by decide +kernel
theorem dX1_withFirst_12 : decode cX1_withFirst 12 = .ok (.goto 4, 3) := by decide +kernel
theorem dX1_withFirst_15 : decode cX1_withFirst 15 = .ok (.iload_n 1, 1) := by decide +kernel
theorem dX1_withFirst_16 : decode cX1_withFirst 16 = .ok (.ireturn, 1) := by decide +kernel
def f_Joining_withFirst (x1 : Int32) (I : MI) (J : MJ) (Q : Int32 → MI → MJ → Prop) : Prop :=
  (if (x1 &&& (I 12 3)) = 0 then Q x1 I J else Q (x1 ||| 1) I J)
set_option maxRecDepth 100000 in
set_option maxHeartbeats 4000000 in
theorem w_Joining_withFirst_b0 {Γ : Ctx} {Q : Int32 → MI → MJ → Prop} {x1 : Int32}  (X : Cx Γ cX1_withFirst 2 RX1 0) (Y : Rt Γ (Pi Q) (Option.some Jvm.ClassFile.FieldType.int))   {I : MI} {J : MJ} (h : f_Joining_withFirst x1 I J Q) : Wp Γ 2 0 [(0, .ref (ad Γ 12)), (1, .int x1)] [] I J := by
  unfold f_Joining_withFirst at h
  refine wp_iload_n X dX1_withFirst_0 1 rfl ?_
  refine wp_aload_n X dX1_withFirst_1 0 rfl ?_
  refine gf_X1_29 X sh_12 dX1_withFirst_2 ?_
  refine wp_iand X dX1_withFirst_5 ?_
  refine wp_if_eq (tgt := 15) X dX1_withFirst_6 (by decide) (fun hc => ?_) (fun hc => ?_)
  · have h := ite_t h hc
    refine wp_iload_n X dX1_withFirst_15 1 rfl ?_
    exact wp_iret X Y dX1_withFirst_16 ⟨_, rfl, h⟩
  · have h := ite_f h hc
    refine wp_iload_n X dX1_withFirst_9 1 rfl ?_
    refine wp_iconst X dX1_withFirst_10 ic_1 ?_
    refine wp_ior X dX1_withFirst_11 ?_
    refine wp_goto (tgt := 16) X dX1_withFirst_12 (by decide) ?_
    exact wp_iret X Y dX1_withFirst_16 ⟨_, rfl, h⟩

theorem c_Joining_withFirst {l : Launch} {g : GE} (hg : Inj g) {I : MI} {J : MJ} {Q : Int32 → MI → MJ → Prop} {x1 : Int32}  (h : f_Joining_withFirst x1 I J Q) : Cm l g yX1_withFirst cX1_withFirst 2 (Option.some Jvm.ClassFile.FieldType.int) 0 [.ref (g.1 12), .int x1] I J (Pi Q) := by
  refine Cm.of (As := fun ad => [.ref (ad 12), .int x1]) hg pn_X1 (Nat.le_of_ble_eq_true rfl) ?_
  exact (fun Γ _ _ X Y => w_Joining_withFirst_b0 X Y  h)
theorem cv_Joining_withFirst {Γ : Ctx} {cc : ByteArray} {nL d pc index : Nat} {own : String} {L : List (Nat × Value)} {rest : List Value} {I : MI} {J : MJ} {Q : Int32 → MI → MJ → Prop} {x1 : Int32} (X : Cx Γ cc nL own d) (hd : decode cc pc = .ok (.invokevirtual index, 3)) (hlink : Cond.methodLink own index yX1_withFirst ∈ TT)  (h : f_Joining_withFirst x1 I J Q) (hrest : (rest.map fun v => v.category).sum ≤ 8) (hdd : 0 + 1 ≤ d) (kk : ∀ (r : Int32) (I' : MI) (J' : MJ), Q r I' J' → Wp Γ nL (pc + 3) L (.int r :: rest) I' J') : Wp Γ nL pc L (.int x1 :: .ref (ad Γ 12) :: rest) I J :=
  wp_callV (As := [.int x1]) (rest := rest) (T := TX1) (N := 5) X hd hlink mv_X1_withFirst sh_12 (by decide) rfl (c_Joining_withFirst X.inj  h) rfl rfl hrest hdd (fun v I' J' hv => by obtain ⟨r, rfl, hq⟩ := hv; exact kk r I' J' hq)
theorem dX1_nextKey_0 : decode cX1_nextKey 0 = .ok (.iload_n 1, 1) := by decide +kernel
theorem dX1_nextKey_1 : decode cX1_nextKey 1 = .ok (.bipush 14, 2) := by decide +kernel
theorem dX1_nextKey_3 : decode cX1_nextKey 3 = .ok (.ishr, 1) := by decide +kernel
theorem dX1_nextKey_4 : decode cX1_nextKey 4 = .ok (.istore_n 3, 1) := by decide +kernel
theorem dX1_nextKey_5 : decode cX1_nextKey 5 = .ok (.iload_n 1, 1) := by decide +kernel
theorem dX1_nextKey_6 : decode cX1_nextKey 6 = .ok (.sipush 16383, 3) := by decide +kernel
theorem dX1_nextKey_9 : decode cX1_nextKey 9 = .ok (.iand, 1) := by decide +kernel
theorem dX1_nextKey_10 : decode cX1_nextKey 10 = .ok (.istore 4, 2) := by decide +kernel
theorem dX1_nextKey_12 : decode cX1_nextKey 12 = .ok (.aload_n 0, 1) := by decide +kernel
theorem dX1_nextKey_13 : decode cX1_nextKey 13 = .ok (.getfield 21, 3) := by decide +kernel
theorem dX1_nextKey_16 : decode cX1_nextKey 16 = .ok (.tableswitch 86 3 5 #[28, 52, 60], 28) := by decide +kernel
theorem dX1_nextKey_44 : decode cX1_nextKey 44 = .ok (.aload_n 0, 1) := by decide +kernel
theorem dX1_nextKey_45 : decode cX1_nextKey 45 = .ok (.aload_n 0, 1) := by decide +kernel
theorem dX1_nextKey_46 : decode cX1_nextKey 46 = .ok (.getfield 12, 3) := by decide +kernel
theorem dX1_nextKey_49 : decode cX1_nextKey 49 = .ok (.iload_n 3, 1) := by decide +kernel
theorem dX1_nextKey_50 : decode cX1_nextKey 50 = .ok (.iload_n 2, 1) := by decide +kernel
theorem dX1_nextKey_51 : decode cX1_nextKey 51 = .ok (.invokestatic 57, 3) := by decide +kernel
theorem dX1_nextKey_54 : decode cX1_nextKey 54 = .ok (.aload_n 0, 1) := by decide +kernel
theorem dX1_nextKey_55 : decode cX1_nextKey 55 = .ok (.getfield 18, 3) := by decide +kernel
theorem dX1_nextKey_58 : decode cX1_nextKey 58 = .ok (.iload 4, 2) := by decide +kernel
theorem dX1_nextKey_60 : decode cX1_nextKey 60 = .ok (.iload_n 2, 1) := by decide +kernel
theorem dX1_nextKey_61 : decode cX1_nextKey 61 = .ok (.invokestatic 61, 3) := by decide +kernel
theorem dX1_nextKey_64 : decode cX1_nextKey 64 = .ok (.invokevirtual 51, 3) := by decide +kernel
theorem dX1_nextKey_67 : decode cX1_nextKey 67 = .ok (.ireturn, 1) := by decide +kernel
theorem dX1_nextKey_68 : decode cX1_nextKey 68 = .ok (.aload_n 0, 1) := by decide +kernel
theorem dX1_nextKey_69 : decode cX1_nextKey 69 = .ok (.iload 4, 2) := by decide +kernel
theorem dX1_nextKey_71 : decode cX1_nextKey 71 = .ok (.iload_n 2, 1) := by decide +kernel
theorem dX1_nextKey_72 : decode cX1_nextKey 72 = .ok (.invokevirtual 64, 3) := by decide +kernel
theorem dX1_nextKey_75 : decode cX1_nextKey 75 = .ok (.ireturn, 1) := by decide +kernel
theorem dX1_nextKey_76 : decode cX1_nextKey 76 = .ok (.aload_n 0, 1) := by decide +kernel
theorem dX1_nextKey_77 : decode cX1_nextKey 77 = .ok (.aload_n 0, 1) := by decide +kernel
theorem dX1_nextKey_78 : decode cX1_nextKey 78 = .ok (.getfield 12, 3) := by decide +kernel
theorem dX1_nextKey_81 : decode cX1_nextKey 81 = .ok (.iload_n 1, 1) := by decide +kernel
theorem dX1_nextKey_82 : decode cX1_nextKey 82 = .ok (.sipush 16384, 3) := by decide +kernel
theorem dX1_nextKey_85 : decode cX1_nextKey 85 = .ok (.if_icmp .ne 7, 3) := by decide +kernel
theorem dX1_nextKey_88 : decode cX1_nextKey 88 = .ok (.iconst 1, 1) := by decide +kernel
theorem dX1_nextKey_89 : decode cX1_nextKey 89 = .ok (.goto 5, 3) := by decide +kernel
theorem dX1_nextKey_92 : decode cX1_nextKey 92 = .ok (.iload 4, 2) := by decide +kernel
theorem dX1_nextKey_94 : decode cX1_nextKey 94 = .ok (.iload_n 2, 1) := by decide +kernel
theorem dX1_nextKey_95 : decode cX1_nextKey 95 = .ok (.invokestatic 61, 3) := by decide +kernel
theorem dX1_nextKey_98 : decode cX1_nextKey 98 = .ok (.invokevirtual 67, 3) := by decide +kernel
theorem dX1_nextKey_101 : decode cX1_nextKey 101 = .ok (.ireturn, 1) := by decide +kernel
theorem dX1_nextKey_102 : decode cX1_nextKey 102 = .ok (.aload_n 0, 1) := by decide +kernel
theorem dX1_nextKey_103 : decode cX1_nextKey 103 = .ok (.getfield 12, 3) := by decide +kernel
theorem dX1_nextKey_106 : decode cX1_nextKey 106 = .ok (.iload_n 3, 1) := by decide +kernel
theorem dX1_nextKey_107 : decode cX1_nextKey 107 = .ok (.iload_n 2, 1) := by decide +kernel
theorem dX1_nextKey_108 : decode cX1_nextKey 108 = .ok (.invokestatic 57, 3) := by decide +kernel
theorem dX1_nextKey_111 : decode cX1_nextKey 111 = .ok (.aload_n 0, 1) := by decide +kernel
theorem dX1_nextKey_112 : decode cX1_nextKey 112 = .ok (.getfield 18, 3) := by decide +kernel
theorem dX1_nextKey_115 : decode cX1_nextKey 115 = .ok (.iload 4, 2) := by decide +kernel
theorem dX1_nextKey_117 : decode cX1_nextKey 117 = .ok (.iload_n 2, 1) := by decide +kernel
theorem dX1_nextKey_118 : decode cX1_nextKey 118 = .ok (.invokestatic 57, 3) := by decide +kernel
theorem dX1_nextKey_121 : decode cX1_nextKey 121 = .ok (.invokestatic 54, 3) := by decide +kernel
theorem dX1_nextKey_124 : decode cX1_nextKey 124 = .ok (.ireturn, 1) := by decide +kernel
def f_Joining_nextKey_b94 (x2 : Int32) (s2 : Int32) (Q : Int32 → MI → MJ → Prop) (I : MI) (J : MJ) : Prop :=
  f_Joining_movedSet 13 s2 x2 I J (fun r95 I95 J95 => f_Joining_withFirst r95 I95 J95 (fun r98 I98 J98 => Q r98 I98 J98))
def f_Joining_nextKey (x1 : Int32) (x2 : Int32) (I : MI) (J : MJ) (Q : Int32 → MI → MJ → Prop) : Prop :=
  ∀ t4 : Int32, t4 = x1 >>> (14 &&& 31) → ∀ t10 : Int32, t10 = x1 &&& 16383 → (if (I 12 2) = 3 then f_Joining_movedState 13 t4 x2 I J (fun r51 I51 J51 => f_Joining_movedSet 18 t10 x2 I51 J51 (fun r61 I61 J61 => f_Joining_withSecond r51 r61 I61 J61 (fun r64 I64 J64 => Q r64 I64 J64))) else (if (I 12 2) = 4 then f_Joining_setLedInto t10 x2 I J (fun r72 I72 J72 => Q r72 I72 J72) else (if (I 12 2) = 5 then (if x1 = 16384 then f_Joining_nextKey_b94 x2 1 Q I J else f_Joining_nextKey_b94 x2 t10 Q I J) else f_Joining_movedState 13 t4 x2 I J (fun r108 I108 J108 => f_Joining_movedState 18 t10 x2 I108 J108 (fun r118 I118 J118 => f_Joining_paired r108 r118 I118 J118 (fun r121 I121 J121 => Q r121 I121 J121))))))
set_option maxRecDepth 100000 in
set_option maxHeartbeats 4000000 in
theorem w_Joining_nextKey_b94 {Γ : Ctx} {Q : Int32 → MI → MJ → Prop} {x2 : Int32} {s2 : Int32}  (X : Cx Γ cX1_nextKey 5 RX1 3) (Y : Rt Γ (Pi Q) (Option.some Jvm.ClassFile.FieldType.int))   {I : MI} {J : MJ} (h : f_Joining_nextKey_b94 x2 s2 Q I J) : Wp Γ 5 94 [(2, .int x2)] [.int s2, .ref (ad Γ 13), .ref (ad Γ 12)] I J := by
  unfold f_Joining_nextKey_b94 at h
  refine wp_iload_n X dX1_nextKey_94 0 rfl ?_
  refine cs_Joining_movedSet X dX1_nextKey_95 ml_X1_61 okM_13 h (Nat.le_of_ble_eq_true rfl) (by decide) (fun r95 I95 J95 h => ?_)
  refine cv_Joining_withFirst X dX1_nextKey_98 ml_X1_67  h (Nat.le_of_ble_eq_true rfl) (by decide) (fun r98 I98 J98 h => ?_)
  exact wp_iret X Y dX1_nextKey_101 ⟨_, rfl, h⟩

set_option maxRecDepth 100000 in
set_option maxHeartbeats 4000000 in
theorem w_Joining_nextKey_b0 {Γ : Ctx} {Q : Int32 → MI → MJ → Prop} {x1 : Int32} {x2 : Int32}  (X : Cx Γ cX1_nextKey 5 RX1 3) (Y : Rt Γ (Pi Q) (Option.some Jvm.ClassFile.FieldType.int))   {I : MI} {J : MJ} (h : f_Joining_nextKey x1 x2 I J Q) : Wp Γ 5 0 [(0, .ref (ad Γ 12)), (1, .int x1), (2, .int x2)] [] I J := by
  unfold f_Joining_nextKey at h
  refine wp_iload_n X dX1_nextKey_0 1 rfl ?_
  refine wp_bipush X dX1_nextKey_1 bi_14 ?_
  refine wp_ishr X dX1_nextKey_3 ?_
  refine wp_topi (fun t4 et4 => ?_)
  have h := h t4 et4
  refine wp_istore_n (L' := [(3, .int t4), (0, .ref (ad Γ 12)), (1, .int x1), (2, .int x2)]) X dX1_nextKey_4 rfl (by decide) rfl ?_
  refine wp_iload_n X dX1_nextKey_5 2 rfl ?_
  refine wp_sipush X dX1_nextKey_6 si_16383 ?_
  refine wp_iand X dX1_nextKey_9 ?_
  refine wp_topi (fun t10 et10 => ?_)
  have h := h t10 et10
  refine wp_istore (L' := [(4, .int t10), (3, .int t4), (0, .ref (ad Γ 12)), (1, .int x1), (2, .int x2)]) X dX1_nextKey_10 (by decide) rfl ?_
  refine wp_aload_n X dX1_nextKey_12 2 rfl ?_
  refine gf_X1_21 X sh_12 dX1_nextKey_13 ?_
  by_cases hs3 : (I 12 2) = 3
  · have h := ite_t h hs3
    refine wp_tab (tgt := 44) (y := 3) X dX1_nextKey_16 hs3 (by decide) (by decide) rfl (by decide) ?_
    refine wp_aload_n X dX1_nextKey_44 2 rfl ?_
    refine wp_aload_n X dX1_nextKey_45 2 rfl ?_
    refine gf_X1_12 (o' := 13) X sh_12 rfl dX1_nextKey_46 ?_
    refine wp_iload_n X dX1_nextKey_49 1 rfl ?_
    refine wp_iload_n X dX1_nextKey_50 4 rfl ?_
    refine cs_Joining_movedState X dX1_nextKey_51 ml_X1_57 okM_13 h (Nat.le_of_ble_eq_true rfl) (by decide) (fun r51 I51 J51 h => ?_)
    refine wp_aload_n X dX1_nextKey_54 2 rfl ?_
    refine gf_X1_18 (o' := 18) X sh_12 rfl dX1_nextKey_55 ?_
    refine wp_iload X dX1_nextKey_58 0 rfl ?_
    refine wp_iload_n X dX1_nextKey_60 4 rfl ?_
    refine cs_Joining_movedSet X dX1_nextKey_61 ml_X1_61 okM_18 h (Nat.le_of_ble_eq_true rfl) (by decide) (fun r61 I61 J61 h => ?_)
    refine cv_Joining_withSecond X dX1_nextKey_64 ml_X1_51  h (Nat.le_of_ble_eq_true rfl) (by decide) (fun r64 I64 J64 h => ?_)
    exact wp_iret X Y dX1_nextKey_67 ⟨_, rfl, h⟩
  have h := ite_f h hs3
  by_cases hs4 : (I 12 2) = 4
  · have h := ite_t h hs4
    refine wp_tab (tgt := 68) (y := 4) X dX1_nextKey_16 hs4 (by decide) (by decide) rfl (by decide) ?_
    refine wp_aload_n X dX1_nextKey_68 2 rfl ?_
    refine wp_iload X dX1_nextKey_69 0 rfl ?_
    refine wp_iload_n X dX1_nextKey_71 4 rfl ?_
    refine cv_Joining_setLedInto X dX1_nextKey_72 ml_X1_64  h (Nat.le_of_ble_eq_true rfl) (by decide) (fun r72 I72 J72 h => ?_)
    exact wp_iret X Y dX1_nextKey_75 ⟨_, rfl, h⟩
  have h := ite_f h hs4
  by_cases hs5 : (I 12 2) = 5
  · have h := ite_t h hs5
    refine wp_tab (tgt := 76) (y := 5) X dX1_nextKey_16 hs5 (by decide) (by decide) rfl (by decide) ?_
    refine wp_aload_n X dX1_nextKey_76 2 rfl ?_
    refine wp_aload_n X dX1_nextKey_77 2 rfl ?_
    refine gf_X1_12 (o' := 13) X sh_12 rfl dX1_nextKey_78 ?_
    refine wp_iload_n X dX1_nextKey_81 3 rfl ?_
    refine wp_sipush X dX1_nextKey_82 si_16384 ?_
    refine wp_icmp_ne (tgt := 92) X dX1_nextKey_85 (by decide) (fun hc => ?_) (fun hc => ?_)
    · have h := ite_f h hc
      refine wp_iload X dX1_nextKey_92 0 rfl ?_
      refine wp_sub X [4] rfl ?_
      exact w_Joining_nextKey_b94 X Y  h
    · have h := ite_t h hc
      refine wp_iconst X dX1_nextKey_88 ic_1 ?_
      refine wp_goto (tgt := 94) X dX1_nextKey_89 (by decide) ?_
      refine wp_sub X [4] rfl ?_
      exact w_Joining_nextKey_b94 X Y  h
  have h := ite_f h hs5
  have nt3 := lv_neT hs3 (a := 3) (by decide)
  have nt4 := lv_neT hs4 (a := 4) (by decide)
  have nt5 := lv_neT hs5 (a := 5) (by decide)
  refine wp_tableOut (tgt := 102) X dX1_nextKey_16 (by omega) (by decide) ?_
  refine wp_aload_n X dX1_nextKey_102 2 rfl ?_
  refine gf_X1_12 (o' := 13) X sh_12 rfl dX1_nextKey_103 ?_
  refine wp_iload_n X dX1_nextKey_106 1 rfl ?_
  refine wp_iload_n X dX1_nextKey_107 4 rfl ?_
  refine cs_Joining_movedState X dX1_nextKey_108 ml_X1_57 okM_13 h (Nat.le_of_ble_eq_true rfl) (by decide) (fun r108 I108 J108 h => ?_)
  refine wp_aload_n X dX1_nextKey_111 2 rfl ?_
  refine gf_X1_18 (o' := 18) X sh_12 rfl dX1_nextKey_112 ?_
  refine wp_iload X dX1_nextKey_115 0 rfl ?_
  refine wp_iload_n X dX1_nextKey_117 4 rfl ?_
  refine cs_Joining_movedState X dX1_nextKey_118 ml_X1_57 okM_18 h (Nat.le_of_ble_eq_true rfl) (by decide) (fun r118 I118 J118 h => ?_)
  refine cs_Joining_paired X dX1_nextKey_121 ml_X1_54  h (Nat.le_of_ble_eq_true rfl) (by decide) (fun r121 I121 J121 h => ?_)
  exact wp_iret X Y dX1_nextKey_124 ⟨_, rfl, h⟩

theorem c_Joining_nextKey {l : Launch} {g : GE} (hg : Inj g) {I : MI} {J : MJ} {Q : Int32 → MI → MJ → Prop} {x1 : Int32} {x2 : Int32}  (h : f_Joining_nextKey x1 x2 I J Q) : Cm l g yX1_nextKey cX1_nextKey 5 (Option.some Jvm.ClassFile.FieldType.int) 3 [.ref (g.1 12), .int x1, .int x2] I J (Pi Q) := by
  refine Cm.of (As := fun ad => [.ref (ad 12), .int x1, .int x2]) hg pn_X1 (Nat.le_of_ble_eq_true rfl) ?_
  exact (fun Γ _ _ X Y => w_Joining_nextKey_b0 X Y  h)
theorem cu_Joining_nextKey {Γ : Ctx} {cc : ByteArray} {nL d pc index : Nat} {own : String} {L : List (Nat × Value)} {rest : List Value} {I : MI} {J : MJ} {Q : Int32 → MI → MJ → Prop} {x1 : Int32} {x2 : Int32} (X : Cx Γ cc nL own d) (hd : decode cc pc = .ok (.invokevirtual index, 3)) (hlink : Cond.methodLink own index ⟨RX8, "nextKey", "(II)I"⟩ ∈ TT)  (h : f_Joining_nextKey x1 x2 I J Q) (hrest : (rest.map fun v => v.category).sum ≤ 8) (hdd : 3 + 1 ≤ d) (kk : ∀ (r : Int32) (I' : MI) (J' : MJ), Q r I' J' → Wp Γ nL (pc + 3) L (.int r :: rest) I' J') : Wp Γ nL pc L (.int x2 :: .int x1 :: .ref (ad Γ 12) :: rest) I J :=
  wp_callU (x := ⟨RX8, "nextKey", "(II)I"⟩) (n := 2) (As := [.int x1, .int x2]) (rest := rest) (T := TX1) (N := 5) X hd hlink rfl (fun g U h => h.2.2.1) (TT_at 751 (by decide +kernel) rfl) (TT_at 752 (by decide +kernel) rfl) (TT_at 753 (by decide +kernel) rfl) (TT_at 111 (by decide +kernel) rfl) (TT_at 754 (by decide +kernel) rfl) (by decide +kernel) (by decide) sh_12 (by decide) rfl (c_Joining_nextKey X.inj  h) rfl rfl hrest hdd (fun v I' J' hv => by obtain ⟨r, rfl, hq⟩ := hv; exact kk r I' J' hq)
def f_Chart_explore_J_b98 (x4 : Int32) (x5 : Int32) (s0 : Int32) (kh : Int32 → MI → MJ → Prop) (k107 : MI → MJ → Prop) (I : MI) (J : MJ) : Prop :=
  (if s0 = (-2) then k107 I J else vp_in ((x4 * 4) + x5) 900 ∧ ∀ I122 : MI, I122 = sI I 7 (upd (I 7) ((x4 * 4) + x5).toNatClampNeg s0) → ∀ t123 : Int32, t123 = x5 + 1 → kh t123 I122 J)
def f_Chart_explore_J_L60 (x2 : Int32) (x3 : Int32) (x4 : Int32) (k107 : MI → MJ → Prop) (k129 : MI → MJ → Prop) : Nat → Int32 → MI → MJ → Prop
  | 0, _, _, _ => False
  | nf60 + 1, x5, I, J =>
  (if x2 ≤ x5 then k129 I J else vp_in x4 225 ∧ f_Joining_nextKey (I 3 x4.toNatClampNeg) x5 I J (fun r76 I76 J76 => (if r76 = (-1) then f_Chart_explore_J_b98 x4 x5 (-1) (f_Chart_explore_J_L60 x2 x3 x4 k107 k129 nf60) k107 I76 J76 else f_Chart_nodeOf r76 x3 I76 J76 (fun r95 I95 J95 => f_Chart_explore_J_b98 x4 x5 r95 (f_Chart_explore_J_L60 x2 x3 x4 k107 k129 nf60) k107 I95 J95))))
def f_Chart_explore_J_L22 (x2 : Int32) (x3 : Int32) (k107 : MI → MJ → Prop) (k135 : MI → MJ → Prop) : Nat → Int32 → MI → MJ → Prop
  | 0, _, _, _ => False
  | nf22 + 1, x4, I, J =>
  (if (I 2 0) ≤ x4 then k135 I J else (if 225 ≤ x4 then k135 I J else vp_in x4 225 ∧ f_Joining_answerAt (I 3 x4.toNatClampNeg) I J (fun r53 I53 J53 => vp_in x4 225 ∧ ∀ I56 : MI, I56 = sI I53 8 (upd (I53 8) x4.toNatClampNeg r53) → ∃ n, f_Chart_explore_J_L60 x2 x3 x4 (fun (I : MI) (J : MJ) => k107 I J) (fun (I : MI) (J : MJ) => ∀ t129 : Int32, t129 = x4 + 1 → f_Chart_explore_J_L22 x2 x3 k107 k135 nf22 t129 I J) n 0 I56 J53)))
def f_Chart_explore_J (x2 : Int32) (x3 : Int32) (I : MI) (J : MJ) (Q : Int32 → MI → MJ → Prop) : Prop :=
  f_Chart_wipe I J (fun I1 J1 => ∀ I6 : MI, I6 = sI I1 2 (upd (I1 2) 1 x2) → f_Joining_firstKey I6 J1 (fun r11 I11 J11 => f_Chart_nodeOf r11 x3 I11 J11 (fun r15 I15 J15 => ∃ n, f_Chart_explore_J_L22 x2 x3 (fun (I : MI) (J : MJ) => Q 0 I J) (fun (I : MI) (J : MJ) => Q 1 I J) n 0 I15 J15)))
set_option maxRecDepth 100000 in
set_option maxHeartbeats 4000000 in
theorem w_Chart_explore_J_b98 {Γ : Ctx} {Q : Int32 → MI → MJ → Prop} {x2 : Int32} {x3 : Int32} {x4 : Int32} {x5 : Int32} {s0 : Int32} {kh : Int32 → MI → MJ → Prop} {k107 : MI → MJ → Prop} (X : Cx Γ cX0_explore 8 RX0 4) (Y : Rt Γ (Pi Q) (Option.some Jvm.ClassFile.FieldType.boolean))  (hkh : ∀ (x5 : Int32) (I : MI) (J : MJ), kh x5 I J → Wp Γ 8 60 [(0, .ref (ad Γ 2)), (1, .ref (ad Γ 12)), (2, .int x2), (3, .int x3), (4, .int x4), (5, .int x5)] [] I J) (hk107 : ∀ (I : MI) (J : MJ), k107 I J → Wp Γ 8 107 [] [] I J) {I : MI} {J : MJ} (h : f_Chart_explore_J_b98 x4 x5 s0 kh k107 I J) : Wp Γ 8 98 [(0, .ref (ad Γ 2)), (1, .ref (ad Γ 12)), (2, .int x2), (3, .int x3), (4, .int x4), (5, .int x5)] [.int s0] I J := by
  unfold f_Chart_explore_J_b98 at h
  refine wp_istore (L' := [(7, .int s0), (0, .ref (ad Γ 2)), (1, .ref (ad Γ 12)), (2, .int x2), (3, .int x3), (4, .int x4), (5, .int x5)]) X dX0_explore_98 (by decide) rfl ?_
  refine wp_iload X dX0_explore_100 0 rfl ?_
  refine wp_bipush X dX0_explore_102 bi_m2 ?_
  refine wp_icmp_ne (tgt := 109) X dX0_explore_104 (by decide) (fun hc => ?_) (fun hc => ?_)
  · have h := ite_f h hc
    refine wp_aload_n X dX0_explore_109 1 rfl ?_
    refine gf_X0_25 (o' := 7) X sh_2 rfl dX0_explore_110 ?_
    refine wp_iload X dX0_explore_113 5 rfl ?_
    refine wp_iconst X dX0_explore_115 ic_4 ?_
    refine wp_imul X dX0_explore_116 ?_
    refine wp_iload X dX0_explore_117 6 rfl ?_
    refine wp_iadd X dX0_explore_119 ?_
    refine wp_iload X dX0_explore_120 0 rfl ?_
    obtain ⟨hb122, h⟩ := h
    refine wp_iast X sh_7 hb122 dX0_explore_122 ?_
    refine wp_memI (fun I122 eI122 => ?_)
    have h := h I122 eI122
    obtain ⟨t123, et123⟩ : ∃ y : Int32, y = x5 + 1 := ⟨_, rfl⟩
    have h := h t123 et123
    refine wp_iinc (L' := [(5, .int t123), (7, .int s0), (0, .ref (ad Γ 2)), (1, .ref (ad Γ 12)), (2, .int x2), (3, .int x3), (4, .int x4)]) X dX0_explore_123 6 rfl (ii_1 et123) (by decide) rfl ?_
    refine wp_goto (tgt := 60) X dX0_explore_126 (by decide) ?_
    refine wp_sub X [2, 3, 4, 5, 6, 0] rfl ?_
    exact hkh _ _ _ h
  · have h := ite_t h hc
    refine wp_sub X [] rfl ?_
    exact hk107 _ _ h

set_option maxRecDepth 100000 in
set_option maxHeartbeats 4000000 in
theorem w_Chart_explore_J_L60 {Γ : Ctx} {Q : Int32 → MI → MJ → Prop} {x2 : Int32} {x3 : Int32} {x4 : Int32} {k107 : MI → MJ → Prop} {k129 : MI → MJ → Prop} (X : Cx Γ cX0_explore 8 RX0 4) (Y : Rt Γ (Pi Q) (Option.some Jvm.ClassFile.FieldType.boolean))  (hk107 : ∀ (I : MI) (J : MJ), k107 I J → Wp Γ 8 107 [] [] I J) (hk129 : ∀ (I : MI) (J : MJ), k129 I J → Wp Γ 8 129 [(0, .ref (ad Γ 2)), (1, .ref (ad Γ 12)), (2, .int x2), (3, .int x3), (4, .int x4)] [] I J) : ∀ (n : Nat) (x5 : Int32) (I : MI) (J : MJ), f_Chart_explore_J_L60 x2 x3 x4 k107 k129 n x5 I J → Wp Γ 8 60 [(0, .ref (ad Γ 2)), (1, .ref (ad Γ 12)), (2, .int x2), (3, .int x3), (4, .int x4), (5, .int x5)] [] I J := by
  intro n
  induction n with
  | zero => intro x5 I J h; exact absurd h (by simp [f_Chart_explore_J_L60])
  | succ n ih =>
  intro x5 I J h
  unfold f_Chart_explore_J_L60 at h
  refine wp_iload X dX0_explore_60 5 rfl ?_
  refine wp_iload_n X dX0_explore_62 2 rfl ?_
  refine wp_icmp_ge (tgt := 129) X dX0_explore_63 (by decide) (fun hc => ?_) (fun hc => ?_)
  · have h := ite_t h hc
    refine wp_sub X [0, 1, 2, 3, 4] rfl ?_
    exact hk129 _ _ h
  · have h := ite_f h hc
    refine wp_aload_n X dX0_explore_66 1 rfl ?_
    refine wp_aload_n X dX0_explore_67 0 rfl ?_
    refine gf_X0_9 (o' := 3) X sh_2 rfl dX0_explore_68 ?_
    refine wp_iload X dX0_explore_71 4 rfl ?_
    obtain ⟨hb73, h⟩ := h
    refine wp_iald X sh_3 hb73 dX0_explore_73 ?_
    refine wp_iload X dX0_explore_74 5 rfl ?_
    refine cu_Joining_nextKey X dX0_explore_76 ml_X0_65  h (Nat.le_of_ble_eq_true rfl) (by decide) (fun r76 I76 J76 h => ?_)
    refine wp_istore (L' := [(6, .int r76), (0, .ref (ad Γ 2)), (1, .ref (ad Γ 12)), (2, .int x2), (3, .int x3), (4, .int x4), (5, .int x5)]) X dX0_explore_79 (by decide) rfl ?_
    refine wp_iload X dX0_explore_81 0 rfl ?_
    refine wp_iconst X dX0_explore_83 ic_m1 ?_
    refine wp_icmp_ne (tgt := 91) X dX0_explore_84 (by decide) (fun hc => ?_) (fun hc => ?_)
    · have h := ite_f h hc
      refine wp_aload_n X dX0_explore_91 1 rfl ?_
      refine wp_iload X dX0_explore_92 0 rfl ?_
      refine wp_iload_n X dX0_explore_94 4 rfl ?_
      refine cv_Chart_nodeOf X dX0_explore_95 ml_X0_57  h (Nat.le_of_ble_eq_true rfl) (by decide) (fun r95 I95 J95 h => ?_)
      refine wp_sub X [1, 2, 3, 4, 5, 6] rfl ?_
      exact w_Chart_explore_J_b98 X Y ih hk107 h
    · have h := ite_t h hc
      refine wp_iconst X dX0_explore_87 ic_m1 ?_
      refine wp_goto (tgt := 98) X dX0_explore_88 (by decide) ?_
      refine wp_sub X [1, 2, 3, 4, 5, 6] rfl ?_
      exact w_Chart_explore_J_b98 X Y ih hk107 h

set_option maxRecDepth 100000 in
set_option maxHeartbeats 4000000 in
theorem w_Chart_explore_J_L22 {Γ : Ctx} {Q : Int32 → MI → MJ → Prop} {x2 : Int32} {x3 : Int32} {k107 : MI → MJ → Prop} {k135 : MI → MJ → Prop} (X : Cx Γ cX0_explore 8 RX0 4) (Y : Rt Γ (Pi Q) (Option.some Jvm.ClassFile.FieldType.boolean))  (hk107 : ∀ (I : MI) (J : MJ), k107 I J → Wp Γ 8 107 [] [] I J) (hk135 : ∀ (I : MI) (J : MJ), k135 I J → Wp Γ 8 135 [] [] I J) : ∀ (n : Nat) (x4 : Int32) (I : MI) (J : MJ), f_Chart_explore_J_L22 x2 x3 k107 k135 n x4 I J → Wp Γ 8 22 [(0, .ref (ad Γ 2)), (1, .ref (ad Γ 12)), (2, .int x2), (3, .int x3), (4, .int x4)] [] I J := by
  intro n
  induction n with
  | zero => intro x4 I J h; exact absurd h (by simp [f_Chart_explore_J_L22])
  | succ n ih =>
  intro x4 I J h
  unfold f_Chart_explore_J_L22 at h
  refine wp_iload X dX0_explore_22 4 rfl ?_
  refine wp_aload_n X dX0_explore_24 0 rfl ?_
  refine gf_X0_40 X sh_2 dX0_explore_25 ?_
  refine wp_icmp_ge (tgt := 135) X dX0_explore_28 (by decide) (fun hc => ?_) (fun hc => ?_)
  · have h := ite_t h hc
    refine wp_sub X [] rfl ?_
    exact hk135 _ _ h
  · have h := ite_f h hc
    refine wp_iload X dX0_explore_31 4 rfl ?_
    refine wp_sipush X dX0_explore_33 si_225 ?_
    refine wp_icmp_ge (tgt := 135) X dX0_explore_36 (by decide) (fun hc => ?_) (fun hc => ?_)
    · have h := ite_t h hc
      refine wp_sub X [] rfl ?_
      exact hk135 _ _ h
    · have h := ite_f h hc
      refine wp_aload_n X dX0_explore_39 0 rfl ?_
      refine gf_X0_28 (o' := 8) X sh_2 rfl dX0_explore_40 ?_
      refine wp_iload X dX0_explore_43 4 rfl ?_
      refine wp_aload_n X dX0_explore_45 1 rfl ?_
      refine wp_aload_n X dX0_explore_46 0 rfl ?_
      refine gf_X0_9 (o' := 3) X sh_2 rfl dX0_explore_47 ?_
      refine wp_iload X dX0_explore_50 4 rfl ?_
      obtain ⟨hb52, h⟩ := h
      refine wp_iald X sh_3 hb52 dX0_explore_52 ?_
      refine cu_Joining_answerAt X dX0_explore_53 ml_X0_61  h (Nat.le_of_ble_eq_true rfl) (by decide) (fun r53 I53 J53 h => ?_)
      obtain ⟨hb56, h⟩ := h
      refine wp_iast X sh_8 hb56 dX0_explore_56 ?_
      refine wp_memI (fun I56 eI56 => ?_)
      have h := h I56 eI56
      refine wp_iconst X dX0_explore_57 ic_0 ?_
      refine wp_istore (L' := [(5, .int 0), (0, .ref (ad Γ 2)), (1, .ref (ad Γ 12)), (2, .int x2), (3, .int x3), (4, .int x4)]) X dX0_explore_58 (by decide) rfl ?_
      obtain ⟨n, h⟩ := h
      refine wp_sub X [1, 2, 3, 4, 5, 0] rfl ?_
      refine w_Chart_explore_J_L60 X Y  ?_ ?_ n _ _ _ h
      · intro I J h
        exact hk107 _ _ h
      · intro I J h
        obtain ⟨t129, et129⟩ : ∃ y : Int32, y = x4 + 1 := ⟨_, rfl⟩
        have h := h t129 et129
        refine wp_iinc (L' := [(4, .int t129), (0, .ref (ad Γ 2)), (1, .ref (ad Γ 12)), (2, .int x2), (3, .int x3)]) X dX0_explore_129 4 rfl (ii_1 et129) (by decide) rfl ?_
        refine wp_goto (tgt := 22) X dX0_explore_132 (by decide) ?_
        refine wp_sub X [1, 2, 3, 4, 0] rfl ?_
        exact ih _ _ _ h

set_option maxRecDepth 100000 in
set_option maxHeartbeats 4000000 in
theorem w_Chart_explore_J_b0 {Γ : Ctx} {Q : Int32 → MI → MJ → Prop} {x2 : Int32} {x3 : Int32}  (X : Cx Γ cX0_explore 8 RX0 4) (Y : Rt Γ (Pi Q) (Option.some Jvm.ClassFile.FieldType.boolean))   {I : MI} {J : MJ} (h : f_Chart_explore_J x2 x3 I J Q) : Wp Γ 8 0 [(0, .ref (ad Γ 2)), (1, .ref (ad Γ 12)), (2, .int x2), (3, .int x3)] [] I J := by
  unfold f_Chart_explore_J at h
  refine wp_aload_n X dX0_explore_0 0 rfl ?_
  refine cv_Chart_wipe X dX0_explore_1 ml_X0_45  h (Nat.le_of_ble_eq_true rfl) (by decide) (fun I1 J1 h => ?_)
  refine wp_aload_n X dX0_explore_4 0 rfl ?_
  refine wp_iload_n X dX0_explore_5 2 rfl ?_
  refine pf_X0_48 X sh_2 dX0_explore_6 (fun I6 eI6 => ?_)
  have h := h I6 eI6
  refine wp_aload_n X dX0_explore_9 0 rfl ?_
  refine wp_aload_n X dX0_explore_10 1 rfl ?_
  refine cu_Joining_firstKey X dX0_explore_11 ml_X0_51  h (Nat.le_of_ble_eq_true rfl) (by decide) (fun r11 I11 J11 h => ?_)
  refine wp_iload_n X dX0_explore_14 3 rfl ?_
  refine cv_Chart_nodeOf X dX0_explore_15 ml_X0_57  h (Nat.le_of_ble_eq_true rfl) (by decide) (fun r15 I15 J15 h => ?_)
  refine wp_pop X dX0_explore_18 rfl ?_
  refine wp_iconst X dX0_explore_19 ic_0 ?_
  refine wp_istore (L' := [(4, .int 0), (0, .ref (ad Γ 2)), (1, .ref (ad Γ 12)), (2, .int x2), (3, .int x3)]) X dX0_explore_20 (by decide) rfl ?_
  obtain ⟨n, h⟩ := h
  refine wp_sub X [1, 2, 3, 4, 0] rfl ?_
  refine w_Chart_explore_J_L22 X Y  ?_ ?_ n _ _ _ h
  · intro I J h
    refine wp_iconst X dX0_explore_107 ic_0 ?_
    exact wp_zret X Y dX0_explore_108 (by decide) ⟨_, rfl, h⟩
  · intro I J h
    refine wp_iconst X dX0_explore_135 ic_1 ?_
    exact wp_zret X Y dX0_explore_136 (by decide) ⟨_, rfl, h⟩

theorem c_Chart_explore_J {l : Launch} {g : GE} (hg : Inj g) {I : MI} {J : MJ} {Q : Int32 → MI → MJ → Prop} {x2 : Int32} {x3 : Int32}  (h : f_Chart_explore_J x2 x3 I J Q) : Cm l g yX0_explore cX0_explore 8 (Option.some Jvm.ClassFile.FieldType.boolean) 4 [.ref (g.1 2), .ref (g.1 12), .int x2, .int x3] I J (Pi Q) := by
  refine Cm.of (As := fun ad => [.ref (ad 2), .ref (ad 12), .int x2, .int x3]) hg pn_X0 (Nat.le_of_ble_eq_true rfl) ?_
  exact (fun Γ _ _ X Y => w_Chart_explore_J_b0 X Y  h)
theorem cv_Chart_explore_J {Γ : Ctx} {cc : ByteArray} {nL d pc index : Nat} {own : String} {L : List (Nat × Value)} {rest : List Value} {I : MI} {J : MJ} {Q : Int32 → MI → MJ → Prop} {x2 : Int32} {x3 : Int32} (X : Cx Γ cc nL own d) (hd : decode cc pc = .ok (.invokevirtual index, 3)) (hlink : Cond.methodLink own index yX0_explore ∈ TT)  (h : f_Chart_explore_J x2 x3 I J Q) (hrest : (rest.map fun v => v.category).sum ≤ 8) (hdd : 4 + 1 ≤ d) (kk : ∀ (r : Int32) (I' : MI) (J' : MJ), Q r I' J' → Wp Γ nL (pc + 3) L (.int r :: rest) I' J') : Wp Γ nL pc L (.int x3 :: .int x2 :: .ref (ad Γ 12) :: .ref (ad Γ 2) :: rest) I J :=
  wp_callV (As := [.ref (ad Γ 12), .int x2, .int x3]) (rest := rest) (T := TX0) (N := 12) X hd hlink mv_X0_explore sh_2 (by decide) rfl (c_Chart_explore_J X.inj  h) rfl rfl hrest hdd (fun v I' J' hv => by obtain ⟨r, rfl, hq⟩ := hv; exact kk r I' J' hq)
theorem dX0_isGreat_0 : decode cX0_isGreat 0 = .ok (.aload_n 1, 1) := by decide +kernel
theorem dX0_isGreat_1 : decode cX0_isGreat 1 = .ok (.getfield 68, 3) := by decide +kernel
theorem dX0_isGreat_4 : decode cX0_isGreat 4 = .ok (.iconst 3, 1) := by decide +kernel
theorem dX0_isGreat_5 : decode cX0_isGreat 5 = .ok (.if_icmp .ne 21, 3) := by decide +kernel
theorem dX0_isGreat_8 : decode cX0_isGreat 8 = .ok (.aload_n 0, 1) := by decide +kernel
theorem dX0_isGreat_9 : decode cX0_isGreat 9 = .ok (.aload_n 1, 1) := by decide +kernel
theorem dX0_isGreat_10 : decode cX0_isGreat 10 = .ok (.aload_n 1, 1) := by decide +kernel
theorem dX0_isGreat_11 : decode cX0_isGreat 11 = .ok (.getfield 73, 3) := by decide +kernel
theorem dX0_isGreat_14 : decode cX0_isGreat 14 = .ok (.bipush 14, 2) := by decide +kernel
theorem dX0_isGreat_16 : decode cX0_isGreat 16 = .ok (.invokevirtual 76, 3) := by decide +kernel
theorem dX0_isGreat_19 : decode cX0_isGreat 19 = .ok (.ifCond .ne 7, 3) := by decide +kernel
theorem dX0_isGreat_22 : decode cX0_isGreat 22 = .ok (.iconst 1, 1) := by decide +kernel
theorem dX0_isGreat_23 : decode cX0_isGreat 23 = .ok (.goto 4, 3) := by decide +kernel
theorem dX0_isGreat_26 : decode cX0_isGreat 26 = .ok (.iconst 0, 1) := by decide +kernel
theorem dX0_isGreat_27 : decode cX0_isGreat 27 = .ok (.ireturn, 1) := by decide +kernel
def f_Chart_isGreat (x1 : Nat) (I : MI) (J : MJ) (Q : Int32 → MI → MJ → Prop) : Prop :=
  (if (I x1 0) = 3 then f_Chart_explore_M x1 (I x1 2) (14 : Int32) I J (fun r16 I16 J16 => (if r16 = 0 then Q 1 I16 J16 else Q 0 I16 J16)) else Q 0 I J)
set_option maxRecDepth 100000 in
set_option maxHeartbeats 4000000 in
theorem w_Chart_isGreat_b0 {Γ : Ctx} {Q : Int32 → MI → MJ → Prop} {x1 : Nat}  (X : Cx Γ cX0_isGreat 2 RX0 5) (Y : Rt Γ (Pi Q) (Option.some Jvm.ClassFile.FieldType.boolean)) (hx1 : okM x1)  {I : MI} {J : MJ} (h : f_Chart_isGreat x1 I J Q) : Wp Γ 2 0 [(0, .ref (ad Γ 2)), (1, .ref (ad Γ x1))] [] I J := by
  unfold f_Chart_isGreat at h
  refine wp_aload_n X dX0_isGreat_0 1 rfl ?_
  refine gf_X0_68 X hx1.1 dX0_isGreat_1 ?_
  refine wp_iconst X dX0_isGreat_4 ic_3 ?_
  refine wp_icmp_ne (tgt := 26) X dX0_isGreat_5 (by decide) (fun hc => ?_) (fun hc => ?_)
  · have h := ite_f h hc
    refine wp_iconst X dX0_isGreat_26 ic_0 ?_
    exact wp_zret X Y dX0_isGreat_27 (by decide) ⟨_, rfl, h⟩
  · have h := ite_t h hc
    refine wp_aload_n X dX0_isGreat_8 0 rfl ?_
    refine wp_aload_n X dX0_isGreat_9 1 rfl ?_
    refine wp_aload_n X dX0_isGreat_10 1 rfl ?_
    refine gf_X0_73 X hx1.1 dX0_isGreat_11 ?_
    refine wp_bipush X dX0_isGreat_14 bi_14 ?_
    refine cv_Chart_explore_M X dX0_isGreat_16 ml_X0_76 hx1 h (Nat.le_of_ble_eq_true rfl) (by decide) (fun r16 I16 J16 h => ?_)
    refine wp_if_ne (tgt := 26) X dX0_isGreat_19 (by decide) (fun hc => ?_) (fun hc => ?_)
    · have h := ite_f h hc
      refine wp_iconst X dX0_isGreat_26 ic_0 ?_
      exact wp_zret X Y dX0_isGreat_27 (by decide) ⟨_, rfl, h⟩
    · have h := ite_t h hc
      refine wp_iconst X dX0_isGreat_22 ic_1 ?_
      refine wp_goto (tgt := 27) X dX0_isGreat_23 (by decide) ?_
      exact wp_zret X Y dX0_isGreat_27 (by decide) ⟨_, rfl, h⟩

theorem c_Chart_isGreat {l : Launch} {g : GE} (hg : Inj g) {I : MI} {J : MJ} {Q : Int32 → MI → MJ → Prop} {x1 : Nat} (hx1 : okM x1) (h : f_Chart_isGreat x1 I J Q) : Cm l g yX0_isGreat cX0_isGreat 2 (Option.some Jvm.ClassFile.FieldType.boolean) 5 [.ref (g.1 2), .ref (g.1 x1)] I J (Pi Q) := by
  refine Cm.of (As := fun ad => [.ref (ad 2), .ref (ad x1)]) hg pn_X0 (Nat.le_of_ble_eq_true rfl) ?_
  exact (fun Γ _ _ X Y => w_Chart_isGreat_b0 X Y hx1 h)
theorem cv_Chart_isGreat {Γ : Ctx} {cc : ByteArray} {nL d pc index : Nat} {own : String} {L : List (Nat × Value)} {rest : List Value} {I : MI} {J : MJ} {Q : Int32 → MI → MJ → Prop} {x1 : Nat} (X : Cx Γ cc nL own d) (hd : decode cc pc = .ok (.invokevirtual index, 3)) (hlink : Cond.methodLink own index yX0_isGreat ∈ TT) (hx1 : okM x1) (h : f_Chart_isGreat x1 I J Q) (hrest : (rest.map fun v => v.category).sum ≤ 8) (hdd : 5 + 1 ≤ d) (kk : ∀ (r : Int32) (I' : MI) (J' : MJ), Q r I' J' → Wp Γ nL (pc + 3) L (.int r :: rest) I' J') : Wp Γ nL pc L (.ref (ad Γ x1) :: .ref (ad Γ 2) :: rest) I J :=
  wp_callV (As := [.ref (ad Γ x1)]) (rest := rest) (T := TX0) (N := 12) X hd hlink mv_X0_isGreat sh_2 (by decide) rfl (c_Chart_isGreat X.inj hx1 h) rfl rfl hrest hdd (fun v I' J' hv => by obtain ⟨r, rfl, hq⟩ := hv; exact kk r I' J' hq)
theorem dX0_pairKey_0 : decode cX0_pairKey 0 = .ok (.iload_n 0, 1) := by decide +kernel
theorem dX0_pairKey_1 : decode cX0_pairKey 1 = .ok (.iconst 1, 1) := by decide +kernel
theorem dX0_pairKey_2 : decode cX0_pairKey 2 = .ok (.iadd, 1) := by decide +kernel
theorem dX0_pairKey_3 : decode cX0_pairKey 3 = .ok (.bipush 57, 2) := by decide +kernel
theorem dX0_pairKey_5 : decode cX0_pairKey 5 = .ok (.imul, 1) := by decide +kernel
theorem dX0_pairKey_6 : decode cX0_pairKey 6 = .ok (.iload_n 1, 1) := by decide +kernel
theorem dX0_pairKey_7 : decode cX0_pairKey 7 = .ok (.iadd, 1) := by decide +kernel
theorem dX0_pairKey_8 : decode cX0_pairKey 8 = .ok (.iconst 1, 1) := by decide +kernel
theorem dX0_pairKey_9 : decode cX0_pairKey 9 = .ok (.iadd, 1) := by decide +kernel
theorem dX0_pairKey_10 : decode cX0_pairKey 10 = .ok (.ireturn, 1) := by decide +kernel
def f_Chart_pairKey (x0 : Int32) (x1 : Int32) (I : MI) (J : MJ) (Q : Int32 → MI → MJ → Prop) : Prop :=
  Q ((((x0 + 1) * 57) + x1) + 1) I J
set_option maxRecDepth 100000 in
set_option maxHeartbeats 4000000 in
theorem w_Chart_pairKey_b0 {Γ : Ctx} {Q : Int32 → MI → MJ → Prop} {x0 : Int32} {x1 : Int32}  (X : Cx Γ cX0_pairKey 2 RX0 0) (Y : Rt Γ (Pi Q) (Option.some Jvm.ClassFile.FieldType.int))   {I : MI} {J : MJ} (h : f_Chart_pairKey x0 x1 I J Q) : Wp Γ 2 0 [(0, .int x0), (1, .int x1)] [] I J := by
  unfold f_Chart_pairKey at h
  refine wp_iload_n X dX0_pairKey_0 0 rfl ?_
  refine wp_iconst X dX0_pairKey_1 ic_1 ?_
  refine wp_iadd X dX0_pairKey_2 ?_
  refine wp_bipush X dX0_pairKey_3 bi_57 ?_
  refine wp_imul X dX0_pairKey_5 ?_
  refine wp_iload_n X dX0_pairKey_6 1 rfl ?_
  refine wp_iadd X dX0_pairKey_7 ?_
  refine wp_iconst X dX0_pairKey_8 ic_1 ?_
  refine wp_iadd X dX0_pairKey_9 ?_
  exact wp_iret X Y dX0_pairKey_10 ⟨_, rfl, h⟩

theorem c_Chart_pairKey {l : Launch} {g : GE} (hg : Inj g) {I : MI} {J : MJ} {Q : Int32 → MI → MJ → Prop} {x0 : Int32} {x1 : Int32}  (h : f_Chart_pairKey x0 x1 I J Q) : Cm l g yX0_pairKey cX0_pairKey 2 (Option.some Jvm.ClassFile.FieldType.int) 0 [.int x0, .int x1] I J (Pi Q) := by
  refine Cm.of (As := fun ad => [.int x0, .int x1]) hg pn_X0 (Nat.le_of_ble_eq_true rfl) ?_
  exact (fun Γ _ _ X Y => w_Chart_pairKey_b0 X Y  h)
theorem cs_Chart_pairKey {Γ : Ctx} {cc : ByteArray} {nL d pc index : Nat} {own : String} {L : List (Nat × Value)} {rest : List Value} {I : MI} {J : MJ} {Q : Int32 → MI → MJ → Prop} {x0 : Int32} {x1 : Int32} (X : Cx Γ cc nL own d) (hd : decode cc pc = .ok (.invokestatic index, 3)) (hlink : Cond.methodLink own index yX0_pairKey ∈ TT)  (h : f_Chart_pairKey x0 x1 I J Q) (hrest : (rest.map fun v => v.category).sum ≤ 8) (hdd : 0 + 1 ≤ d) (kk : ∀ (r : Int32) (I' : MI) (J' : MJ), Q r I' J' → Wp Γ nL (pc + 3) L (.int r :: rest) I' J') : Wp Γ nL pc L (.int x1 :: .int x0 :: rest) I J :=
  wp_callS (As := [.int x0, .int x1]) (rest := rest) X hd hlink mv_X0_pairKey (c_Chart_pairKey X.inj  h) rfl rfl hrest hdd (fun v I' J' hv => by obtain ⟨r, rfl, hq⟩ := hv; exact kk r I' J' hq)
theorem dX0_addPair_0 : decode cX0_addPair 0 = .ok (.aload_n 0, 1) := by decide +kernel
theorem dX0_addPair_1 : decode cX0_addPair 1 = .ok (.getfield 40, 3) := by decide +kernel
theorem dX0_addPair_4 : decode cX0_addPair 4 = .ok (.istore 4, 2) := by decide +kernel
theorem dX0_addPair_6 : decode cX0_addPair 6 = .ok (.aload_n 0, 1) := by decide +kernel
theorem dX0_addPair_7 : decode cX0_addPair 7 = .ok (.iload_n 1, 1) := by decide +kernel
theorem dX0_addPair_8 : decode cX0_addPair 8 = .ok (.sipush 225, 3) := by decide +kernel
theorem dX0_addPair_11 : decode cX0_addPair 11 = .ok (.invokevirtual 57, 3) := by decide +kernel
theorem dX0_addPair_14 : decode cX0_addPair 14 = .ok (.istore 5, 2) := by decide +kernel
theorem dX0_addPair_16 : decode cX0_addPair 16 = .ok (.iload 5, 2) := by decide +kernel
theorem dX0_addPair_18 : decode cX0_addPair 18 = .ok (.iload 4, 2) := by decide +kernel
theorem dX0_addPair_20 : decode cX0_addPair 20 = .ok (.if_icmp .lt 11, 3) := by decide +kernel
theorem dX0_addPair_23 : decode cX0_addPair 23 = .ok (.aload_n 0, 1) := by decide +kernel
theorem dX0_addPair_24 : decode cX0_addPair 24 = .ok (.getfield 21, 3) := by decide +kernel
theorem dX0_addPair_27 : decode cX0_addPair 27 = .ok (.iload 5, 2) := by decide +kernel
theorem dX0_addPair_29 : decode cX0_addPair 29 = .ok (.lload_n 2, 1) := by decide +kernel
theorem dX0_addPair_30 : decode cX0_addPair 30 = .ok (.lastore, 1) := by decide +kernel
theorem dX0_addPair_31 : decode cX0_addPair 31 = .ok (.return_, 1) := by decide +kernel
def f_Chart_addPair (x1 : Int32) (x2 : Int64) (I : MI) (J : MJ) (Q : MI → MJ → Prop) : Prop :=
  ∀ t4 : Int32, t4 = I 2 0 → f_Chart_nodeOf x1 (225 : Int32) I J (fun r11 I11 J11 => (if r11 < t4 then Q I11 J11 else vp_in r11 225 ∧ ∀ J30 : MJ, J30 = sJ J11 6 (vp_updL (J11 6) r11.toNatClampNeg x2) → Q I11 J30))
set_option maxRecDepth 100000 in
set_option maxHeartbeats 4000000 in
theorem w_Chart_addPair_b0 {Γ : Ctx} {Q : MI → MJ → Prop} {x1 : Int32} {x2 : Int64}  (X : Cx Γ cX0_addPair 6 RX0 1) (Y : Rt Γ (Pv Q) (Option.none : Option Jvm.ClassFile.FieldType))   {I : MI} {J : MJ} (h : f_Chart_addPair x1 x2 I J Q) : Wp Γ 6 0 [(0, .ref (ad Γ 2)), (1, .int x1), (2, .long x2)] [] I J := by
  unfold f_Chart_addPair at h
  refine wp_aload_n X dX0_addPair_0 0 rfl ?_
  refine gf_X0_40 X sh_2 dX0_addPair_1 ?_
  refine wp_topi (fun t4 et4 => ?_)
  have h := h t4 et4
  refine wp_istore (L' := [(4, .int t4), (0, .ref (ad Γ 2)), (1, .int x1), (2, .long x2)]) X dX0_addPair_4 (by decide) rfl ?_
  refine wp_aload_n X dX0_addPair_6 1 rfl ?_
  refine wp_iload_n X dX0_addPair_7 2 rfl ?_
  refine wp_sipush X dX0_addPair_8 si_225 ?_
  refine cv_Chart_nodeOf X dX0_addPair_11 ml_X0_57  h (Nat.le_of_ble_eq_true rfl) (by decide) (fun r11 I11 J11 h => ?_)
  refine wp_istore (L' := [(5, .int r11), (4, .int t4), (0, .ref (ad Γ 2)), (1, .int x1), (2, .long x2)]) X dX0_addPair_14 (by decide) rfl ?_
  refine wp_iload X dX0_addPair_16 0 rfl ?_
  refine wp_iload X dX0_addPair_18 1 rfl ?_
  refine wp_icmp_lt (tgt := 31) X dX0_addPair_20 (by decide) (fun hc => ?_) (fun hc => ?_)
  · have h := ite_t h hc
    exact wp_vret X Y dX0_addPair_31 ⟨rfl, h⟩
  · have h := ite_f h hc
    refine wp_aload_n X dX0_addPair_23 2 rfl ?_
    refine gf_X0_21 (o' := 6) X sh_2 rfl dX0_addPair_24 ?_
    refine wp_iload X dX0_addPair_27 0 rfl ?_
    refine wp_lload_n X dX0_addPair_29 4 rfl ?_
    obtain ⟨hb30, h⟩ := h
    refine wp_last X sh_6 hb30 dX0_addPair_30 ?_
    refine wp_memJ (fun J30 eJ30 => ?_)
    have h := h J30 eJ30
    exact wp_vret X Y dX0_addPair_31 ⟨rfl, h⟩

theorem c_Chart_addPair {l : Launch} {g : GE} (hg : Inj g) {I : MI} {J : MJ} {Q : MI → MJ → Prop} {x1 : Int32} {x2 : Int64}  (h : f_Chart_addPair x1 x2 I J Q) : Cm l g yX0_addPair cX0_addPair 6 (Option.none : Option Jvm.ClassFile.FieldType) 1 [.ref (g.1 2), .int x1, .long x2] I J (Pv Q) := by
  refine Cm.of (As := fun ad => [.ref (ad 2), .int x1, .long x2]) hg pn_X0 (Nat.le_of_ble_eq_true rfl) ?_
  exact (fun Γ _ _ X Y => w_Chart_addPair_b0 X Y  h)
theorem cv_Chart_addPair {Γ : Ctx} {cc : ByteArray} {nL d pc index : Nat} {own : String} {L : List (Nat × Value)} {rest : List Value} {I : MI} {J : MJ} {Q : MI → MJ → Prop} {x1 : Int32} {x2 : Int64} (X : Cx Γ cc nL own d) (hd : decode cc pc = .ok (.invokevirtual index, 3)) (hlink : Cond.methodLink own index yX0_addPair ∈ TT)  (h : f_Chart_addPair x1 x2 I J Q) (hrest : (rest.map fun v => v.category).sum ≤ 8) (hdd : 1 + 1 ≤ d) (kk : ∀ (I' : MI) (J' : MJ), Q I' J' → Wp Γ nL (pc + 3) L rest I' J') : Wp Γ nL pc L (.long x2 :: .int x1 :: .ref (ad Γ 2) :: rest) I J :=
  wp_callV (As := [.int x1, .long x2]) (rest := rest) (T := TX0) (N := 12) X hd hlink mv_X0_addPair sh_2 (by decide) rfl (c_Chart_addPair X.inj  h) rfl rfl hrest hdd (fun v I' J' hv => by obtain ⟨rfl, hq⟩ := hv; exact kk I' J' hq)
theorem dX0_firstUnlike_0 : decode cX0_firstUnlike 0 = .ok (.aload_n 0, 1) := by decide +kernel
theorem dX0_firstUnlike_1 : decode cX0_firstUnlike 1 = .ok (.invokevirtual 45, 3) := by decide +kernel
theorem dX0_firstUnlike_4 : decode cX0_firstUnlike 4 = .ok (.aload_n 1, 1) := by decide +kernel
theorem dX0_firstUnlike_5 : decode cX0_firstUnlike 5 = .ok (.getfield 73, 3) := by decide +kernel
theorem dX0_firstUnlike_8 : decode cX0_firstUnlike 8 = .ok (.aload_n 3, 1) := by decide +kernel
theorem dX0_firstUnlike_9 : decode cX0_firstUnlike 9 = .ok (.getfield 73, 3) := by decide +kernel
theorem dX0_firstUnlike_12 : decode cX0_firstUnlike 12 = .ok (.invokestatic 131, 3) := by decide +kernel
theorem dX0_firstUnlike_15 : decode cX0_firstUnlike 15 = .ok (.istore 5, 2) := by decide +kernel
theorem dX0_firstUnlike_17 : decode cX0_firstUnlike 17 = .ok (.aload_n 0, 1) := by decide +kernel
theorem dX0_firstUnlike_18 : decode cX0_firstUnlike 18 = .ok (.iload_n 2, 1) := by decide +kernel
theorem dX0_firstUnlike_19 : decode cX0_firstUnlike 19 = .ok (.iload 4, 2) := by decide +kernel
theorem dX0_firstUnlike_21 : decode cX0_firstUnlike 21 = .ok (.invokestatic 134, 3) := by decide +kernel
theorem dX0_firstUnlike_24 : decode cX0_firstUnlike 24 = .ok (.sipush 225, 3) := by decide +kernel
theorem dX0_firstUnlike_27 : decode cX0_firstUnlike 27 = .ok (.invokevirtual 57, 3) := by decide +kernel
theorem dX0_firstUnlike_30 : decode cX0_firstUnlike 30 = .ok (.pop, 1) := by decide +kernel
theorem dX0_firstUnlike_31 : decode cX0_firstUnlike 31 = .ok (.aload_n 0, 1) := by decide +kernel
theorem dX0_firstUnlike_32 : decode cX0_firstUnlike 32 = .ok (.getfield 21, 3) := by decide +kernel
theorem dX0_firstUnlike_35 : decode cX0_firstUnlike 35 = .ok (.iconst 0, 1) := by decide +kernel
theorem dX0_firstUnlike_36 : decode cX0_firstUnlike 36 = .ok (.lconst 1, 1) := by decide +kernel
theorem dX0_firstUnlike_37 : decode cX0_firstUnlike 37 = .ok (.lastore, 1) := by decide +kernel
theorem dX0_firstUnlike_38 : decode cX0_firstUnlike 38 = .ok (.iconst 0, 1) := by decide +kernel
theorem dX0_firstUnlike_39 : decode cX0_firstUnlike 39 = .ok (.istore 6, 2) := by decide +kernel
theorem dX0_firstUnlike_41 : decode cX0_firstUnlike 41 = .ok (.iload 6, 2) := by decide +kernel
theorem dX0_firstUnlike_43 : decode cX0_firstUnlike 43 = .ok (.aload_n 0, 1) := by decide +kernel
theorem dX0_firstUnlike_44 : decode cX0_firstUnlike 44 = .ok (.getfield 40, 3) := by decide +kernel
theorem dX0_firstUnlike_47 : decode cX0_firstUnlike 47 = .ok (.if_icmp .ge 122, 3) := by decide +kernel
theorem dX0_firstUnlike_50 : decode cX0_firstUnlike 50 = .ok (.iload 6, 2) := by decide +kernel
theorem dX0_firstUnlike_52 : decode cX0_firstUnlike 52 = .ok (.sipush 225, 3) := by decide +kernel
theorem dX0_firstUnlike_55 : decode cX0_firstUnlike 55 = .ok (.if_icmp .ge 114, 3) := by decide +kernel
theorem dX0_firstUnlike_58 : decode cX0_firstUnlike 58 = .ok (.aload_n 0, 1) := by decide +kernel
theorem dX0_firstUnlike_59 : decode cX0_firstUnlike 59 = .ok (.getfield 9, 3) := by decide +kernel
theorem dX0_firstUnlike_62 : decode cX0_firstUnlike 62 = .ok (.iload 6, 2) := by decide +kernel
theorem dX0_firstUnlike_64 : decode cX0_firstUnlike 64 = .ok (.iaload, 1) := by decide +kernel
theorem dX0_firstUnlike_65 : decode cX0_firstUnlike 65 = .ok (.bipush 57, 2) := by decide +kernel
theorem dX0_firstUnlike_67 : decode cX0_firstUnlike 67 = .ok (.idiv, 1) := by decide +kernel
theorem dX0_firstUnlike_68 : decode cX0_firstUnlike 68 = .ok (.iconst 1, 1) := by decide +kernel
theorem dX0_firstUnlike_69 : decode cX0_firstUnlike 69 = .ok (.isub, 1) := by decide +kernel
theorem dX0_firstUnlike_70 : decode cX0_firstUnlike 70 = .ok (.istore 7, 2) := by decide +kernel
theorem dX0_firstUnlike_72 : decode cX0_firstUnlike 72 = .ok (.aload_n 0, 1) := by decide +kernel
theorem dX0_firstUnlike_73 : decode cX0_firstUnlike 73 = .ok (.getfield 9, 3) := by decide +kernel
theorem dX0_firstUnlike_76 : decode cX0_firstUnlike 76 = .ok (.iload 6, 2) := by decide +kernel
theorem dX0_firstUnlike_78 : decode cX0_firstUnlike 78 = .ok (.iaload, 1) := by decide +kernel
theorem dX0_firstUnlike_79 : decode cX0_firstUnlike 79 = .ok (.bipush 57, 2) := by decide +kernel
theorem dX0_firstUnlike_81 : decode cX0_firstUnlike 81 = .ok (.irem, 1) := by decide +kernel
theorem dX0_firstUnlike_82 : decode cX0_firstUnlike 82 = .ok (.iconst 1, 1) := by decide +kernel
theorem dX0_firstUnlike_83 : decode cX0_firstUnlike 83 = .ok (.isub, 1) := by decide +kernel
theorem dX0_firstUnlike_84 : decode cX0_firstUnlike 84 = .ok (.istore 8, 2) := by decide +kernel
theorem dX0_firstUnlike_86 : decode cX0_firstUnlike 86 = .ok (.aload_n 1, 1) := by decide +kernel
theorem dX0_firstUnlike_87 : decode cX0_firstUnlike 87 = .ok (.iload 7, 2) := by decide +kernel
theorem dX0_firstUnlike_89 : decode cX0_firstUnlike 89 = .ok (.invokevirtual 137, 3) := by decide +kernel
theorem dX0_firstUnlike_92 : decode cX0_firstUnlike 92 = .ok (.aload_n 3, 1) := by decide +kernel
theorem dX0_firstUnlike_93 : decode cX0_firstUnlike 93 = .ok (.iload 8, 2) := by decide +kernel
theorem dX0_firstUnlike_95 : decode cX0_firstUnlike 95 = .ok (.invokevirtual 137, 3) := by decide +kernel
theorem dX0_firstUnlike_98 : decode cX0_firstUnlike 98 = .ok (.if_icmp .eq 11, 3) := by decide +kernel
theorem dX0_firstUnlike_101 : decode cX0_firstUnlike 101 = .ok (.aload_n 0, 1) := by decide +kernel
theorem dX0_firstUnlike_102 : decode cX0_firstUnlike 102 = .ok (.getfield 21, 3) := by decide +kernel
theorem dX0_firstUnlike_105 : decode cX0_firstUnlike 105 = .ok (.iload 6, 2) := by decide +kernel
theorem dX0_firstUnlike_107 : decode cX0_firstUnlike 107 = .ok (.laload, 1) := by decide +kernel
theorem dX0_firstUnlike_108 : decode cX0_firstUnlike 108 = .ok (.lreturn, 1) := by decide +kernel
theorem dX0_firstUnlike_109 : decode cX0_firstUnlike 109 = .ok (.iconst 0, 1) := by decide +kernel
theorem dX0_firstUnlike_110 : decode cX0_firstUnlike 110 = .ok (.istore 9, 2) := by decide +kernel
theorem dX0_firstUnlike_112 : decode cX0_firstUnlike 112 = .ok (.iload 9, 2) := by decide +kernel
theorem dX0_firstUnlike_114 : decode cX0_firstUnlike 114 = .ok (.iload 5, 2) := by decide +kernel
theorem dX0_firstUnlike_116 : decode cX0_firstUnlike 116 = .ok (.if_icmp .ge 47, 3) := by decide +kernel
theorem dX0_firstUnlike_119 : decode cX0_firstUnlike 119 = .ok (.aload_n 0, 1) := by decide +kernel
theorem dX0_firstUnlike_120 : decode cX0_firstUnlike 120 = .ok (.aload_n 1, 1) := by decide +kernel
theorem dX0_firstUnlike_121 : decode cX0_firstUnlike 121 = .ok (.iload 7, 2) := by decide +kernel
theorem dX0_firstUnlike_123 : decode cX0_firstUnlike 123 = .ok (.iload 9, 2) := by decide +kernel
theorem dX0_firstUnlike_125 : decode cX0_firstUnlike 125 = .ok (.invokevirtual 138, 3) := by decide +kernel
theorem dX0_firstUnlike_128 : decode cX0_firstUnlike 128 = .ok (.aload_n 3, 1) := by decide +kernel
theorem dX0_firstUnlike_129 : decode cX0_firstUnlike 129 = .ok (.iload 8, 2) := by decide +kernel
theorem dX0_firstUnlike_131 : decode cX0_firstUnlike 131 = .ok (.iload 9, 2) := by decide +kernel
theorem dX0_firstUnlike_133 : decode cX0_firstUnlike 133 = .ok (.invokevirtual 138, 3) := by decide +kernel
theorem dX0_firstUnlike_136 : decode cX0_firstUnlike 136 = .ok (.invokestatic 134, 3) := by decide +kernel
theorem dX0_firstUnlike_139 : decode cX0_firstUnlike 139 = .ok (.ldc2_w 139, 3) := by decide +kernel
theorem dX0_firstUnlike_142 : decode cX0_firstUnlike 142 = .ok (.aload_n 0, 1) := by decide +kernel
theorem dX0_firstUnlike_143 : decode cX0_firstUnlike 143 = .ok (.getfield 21, 3) := by decide +kernel
theorem dX0_firstUnlike_146 : decode cX0_firstUnlike 146 = .ok (.iload 6, 2) := by decide +kernel
theorem dX0_firstUnlike_148 : decode cX0_firstUnlike 148 = .ok (.laload, 1) := by decide +kernel
theorem dX0_firstUnlike_149 : decode cX0_firstUnlike 149 = .ok (.lmul, 1) := by decide +kernel
theorem dX0_firstUnlike_150 : decode cX0_firstUnlike 150 = .ok (.iload 9, 2) := by decide +kernel
theorem dX0_firstUnlike_152 : decode cX0_firstUnlike 152 = .ok (.i2l, 1) := by decide +kernel
theorem dX0_firstUnlike_153 : decode cX0_firstUnlike 153 = .ok (.ladd, 1) := by decide +kernel
theorem dX0_firstUnlike_154 : decode cX0_firstUnlike 154 = .ok (.invokevirtual 141, 3) := by decide +kernel
theorem dX0_firstUnlike_157 : decode cX0_firstUnlike 157 = .ok (.iinc 9 1, 3) := by decide +kernel
theorem dX0_firstUnlike_160 : decode cX0_firstUnlike 160 = .ok (.goto (-48), 3) := by decide +kernel
theorem dX0_firstUnlike_163 : decode cX0_firstUnlike 163 = .ok (.iinc 6 1, 3) := by decide +kernel
theorem dX0_firstUnlike_166 : decode cX0_firstUnlike 166 = .ok (.goto (-125), 3) := by decide +kernel
theorem dX0_firstUnlike_169 : decode cX0_firstUnlike 169 = .ok (.lconst 0, 1) := by decide +kernel
theorem dX0_firstUnlike_170 : decode cX0_firstUnlike 170 = .ok (.lreturn, 1) := by decide +kernel
def f_Chart_firstUnlike_L112 (x1 : Nat) (x3 : Nat) (x5 : Int32) (x6 : Int32) (x7 : Int32) (x8 : Int32) (k163 : MI → MJ → Prop) : Nat → Int32 → MI → MJ → Prop
  | 0, _, _, _ => False
  | nf112 + 1, x9, I, J =>
  (if x5 ≤ x9 then k163 I J else f_Machine_nextKey x1 x7 x9 I J (fun r125 I125 J125 => f_Machine_nextKey x3 x8 x9 I125 J125 (fun r133 I133 J133 => f_Chart_pairKey r125 r133 I133 J133 (fun r136 I136 J136 => vp_in x6 225 ∧ f_Chart_addPair r136 ((4 * (J136 6 x6.toNatClampNeg)) + x9.toInt64) I136 J136 (fun I154 J154 => ∀ t157 : Int32, t157 = x9 + 1 → f_Chart_firstUnlike_L112 x1 x3 x5 x6 x7 x8 k163 nf112 t157 I154 J154)))))
def f_Chart_firstUnlike_L41 (x1 : Nat) (x3 : Nat) (x5 : Int32) (k101 : Int32 → MI → MJ → Prop) (k169 : MI → MJ → Prop) : Nat → Int32 → MI → MJ → Prop
  | 0, _, _, _ => False
  | nf41 + 1, x6, I, J =>
  (if (I 2 0) ≤ x6 then k169 I J else (if 225 ≤ x6 then k169 I J else vp_in x6 225 ∧ ∀ t70 : Int32, t70 = ((I 3 x6.toNatClampNeg) / 57) - 1 → vp_in x6 225 ∧ ∀ t84 : Int32, t84 = ((I 3 x6.toNatClampNeg) - (I 3 x6.toNatClampNeg) / 57 * 57) - 1 → f_Machine_answerAt x1 t70 I J (fun r89 I89 J89 => f_Machine_answerAt x3 t84 I89 J89 (fun r95 I95 J95 => (if r89 = r95 then ∃ n, f_Chart_firstUnlike_L112 x1 x3 x5 x6 t70 t84 (fun (I : MI) (J : MJ) => ∀ t163 : Int32, t163 = x6 + 1 → f_Chart_firstUnlike_L41 x1 x3 x5 k101 k169 nf41 t163 I J) n 0 I95 J95 else k101 x6 I95 J95)))))
def f_Chart_firstUnlike (x1 : Nat) (x2 : Int32) (x3 : Nat) (x4 : Int32) (I : MI) (J : MJ) (Q : Int64 → MI → MJ → Prop) : Prop :=
  f_Chart_wipe I J (fun I1 J1 => ∀ t15 : Int32, t15 = (if (I1 x1 2) < (I1 x3 2) then I1 x3 2 else I1 x1 2) → f_Chart_pairKey x2 x4 I1 J1 (fun r21 I21 J21 => f_Chart_nodeOf r21 (225 : Int32) I21 J21 (fun r27 I27 J27 => vp_in 0 225 ∧ ∀ J37 : MJ, J37 = sJ J27 6 (vp_updL (J27 6) (0 : Int32).toNatClampNeg 1) → ∃ n, f_Chart_firstUnlike_L41 x1 x3 t15 (fun (z101_x6 : Int32) (I : MI) (J : MJ) => vp_in z101_x6 225 ∧ Q (J 6 z101_x6.toNatClampNeg) I J) (fun (I : MI) (J : MJ) => Q 0 I J) n 0 I27 J37)))
set_option maxRecDepth 100000 in
set_option maxHeartbeats 4000000 in
theorem w_Chart_firstUnlike_L112 {Γ : Ctx} {Q : Int64 → MI → MJ → Prop} {x1 : Nat} {x3 : Nat} {x5 : Int32} {x6 : Int32} {x7 : Int32} {x8 : Int32} {k163 : MI → MJ → Prop} (X : Cx Γ cX0_firstUnlike 10 RX0 2) (Y : Rt Γ (Pl Q) (Option.some Jvm.ClassFile.FieldType.long)) (hx1 : okM x1) (hx3 : okM x3) (hk163 : ∀ (I : MI) (J : MJ), k163 I J → Wp Γ 10 163 [(0, .ref (ad Γ 2)), (1, .ref (ad Γ x1)), (3, .ref (ad Γ x3)), (5, .int x5), (6, .int x6)] [] I J) : ∀ (n : Nat) (x9 : Int32) (I : MI) (J : MJ), f_Chart_firstUnlike_L112 x1 x3 x5 x6 x7 x8 k163 n x9 I J → Wp Γ 10 112 [(0, .ref (ad Γ 2)), (1, .ref (ad Γ x1)), (3, .ref (ad Γ x3)), (5, .int x5), (6, .int x6), (7, .int x7), (8, .int x8), (9, .int x9)] [] I J := by
  intro n
  induction n with
  | zero => intro x9 I J h; exact absurd h (by simp [f_Chart_firstUnlike_L112])
  | succ n ih =>
  intro x9 I J h
  unfold f_Chart_firstUnlike_L112 at h
  refine wp_iload X dX0_firstUnlike_112 7 rfl ?_
  refine wp_iload X dX0_firstUnlike_114 3 rfl ?_
  refine wp_icmp_ge (tgt := 163) X dX0_firstUnlike_116 (by decide) (fun hc => ?_) (fun hc => ?_)
  · have h := ite_t h hc
    refine wp_sub X [0, 1, 2, 3, 4] rfl ?_
    exact hk163 _ _ h
  · have h := ite_f h hc
    refine wp_aload_n X dX0_firstUnlike_119 0 rfl ?_
    refine wp_aload_n X dX0_firstUnlike_120 1 rfl ?_
    refine wp_iload X dX0_firstUnlike_121 5 rfl ?_
    refine wp_iload X dX0_firstUnlike_123 7 rfl ?_
    refine cv_Machine_nextKey X dX0_firstUnlike_125 ml_X0_138 hx1 h (Nat.le_of_ble_eq_true rfl) (by decide) (fun r125 I125 J125 h => ?_)
    refine wp_aload_n X dX0_firstUnlike_128 2 rfl ?_
    refine wp_iload X dX0_firstUnlike_129 6 rfl ?_
    refine wp_iload X dX0_firstUnlike_131 7 rfl ?_
    refine cv_Machine_nextKey X dX0_firstUnlike_133 ml_X0_138 hx3 h (Nat.le_of_ble_eq_true rfl) (by decide) (fun r133 I133 J133 h => ?_)
    refine cs_Chart_pairKey X dX0_firstUnlike_136 ml_X0_134  h (Nat.le_of_ble_eq_true rfl) (by decide) (fun r136 I136 J136 h => ?_)
    refine wp_ldc2 X kl_X0_139 dX0_firstUnlike_139 ?_
    refine wp_aload_n X dX0_firstUnlike_142 0 rfl ?_
    refine gf_X0_21 (o' := 6) X sh_2 rfl dX0_firstUnlike_143 ?_
    refine wp_iload X dX0_firstUnlike_146 4 rfl ?_
    obtain ⟨hb148, h⟩ := h
    refine wp_lald X sh_6 hb148 dX0_firstUnlike_148 ?_
    refine wp_lmul X dX0_firstUnlike_149 ?_
    refine wp_iload X dX0_firstUnlike_150 7 rfl ?_
    refine wp_i2l X dX0_firstUnlike_152 ?_
    refine wp_ladd X dX0_firstUnlike_153 ?_
    refine cv_Chart_addPair X dX0_firstUnlike_154 ml_X0_141  h (Nat.le_of_ble_eq_true rfl) (by decide) (fun I154 J154 h => ?_)
    obtain ⟨t157, et157⟩ : ∃ y : Int32, y = x9 + 1 := ⟨_, rfl⟩
    have h := h t157 et157
    refine wp_iinc (L' := [(9, .int t157), (0, .ref (ad Γ 2)), (1, .ref (ad Γ x1)), (3, .ref (ad Γ x3)), (5, .int x5), (6, .int x6), (7, .int x7), (8, .int x8)]) X dX0_firstUnlike_157 7 rfl (ii_1 et157) (by decide) rfl ?_
    refine wp_goto (tgt := 112) X dX0_firstUnlike_160 (by decide) ?_
    refine wp_sub X [1, 2, 3, 4, 5, 6, 7, 0] rfl ?_
    exact ih _ _ _ h

set_option maxRecDepth 100000 in
set_option maxHeartbeats 4000000 in
theorem w_Chart_firstUnlike_L41 {Γ : Ctx} {Q : Int64 → MI → MJ → Prop} {x1 : Nat} {x3 : Nat} {x5 : Int32} {k101 : Int32 → MI → MJ → Prop} {k169 : MI → MJ → Prop} (X : Cx Γ cX0_firstUnlike 10 RX0 2) (Y : Rt Γ (Pl Q) (Option.some Jvm.ClassFile.FieldType.long)) (hx1 : okM x1) (hx3 : okM x3) (hk101 : ∀ (x6 : Int32) (I : MI) (J : MJ), k101 x6 I J → Wp Γ 10 101 [(0, .ref (ad Γ 2)), (6, .int x6)] [] I J) (hk169 : ∀ (I : MI) (J : MJ), k169 I J → Wp Γ 10 169 [] [] I J) : ∀ (n : Nat) (x6 : Int32) (I : MI) (J : MJ), f_Chart_firstUnlike_L41 x1 x3 x5 k101 k169 n x6 I J → Wp Γ 10 41 [(0, .ref (ad Γ 2)), (1, .ref (ad Γ x1)), (3, .ref (ad Γ x3)), (5, .int x5), (6, .int x6)] [] I J := by
  intro n
  induction n with
  | zero => intro x6 I J h; exact absurd h (by simp [f_Chart_firstUnlike_L41])
  | succ n ih =>
  intro x6 I J h
  unfold f_Chart_firstUnlike_L41 at h
  refine wp_iload X dX0_firstUnlike_41 4 rfl ?_
  refine wp_aload_n X dX0_firstUnlike_43 0 rfl ?_
  refine gf_X0_40 X sh_2 dX0_firstUnlike_44 ?_
  refine wp_icmp_ge (tgt := 169) X dX0_firstUnlike_47 (by decide) (fun hc => ?_) (fun hc => ?_)
  · have h := ite_t h hc
    refine wp_sub X [] rfl ?_
    exact hk169 _ _ h
  · have h := ite_f h hc
    refine wp_iload X dX0_firstUnlike_50 4 rfl ?_
    refine wp_sipush X dX0_firstUnlike_52 si_225 ?_
    refine wp_icmp_ge (tgt := 169) X dX0_firstUnlike_55 (by decide) (fun hc => ?_) (fun hc => ?_)
    · have h := ite_t h hc
      refine wp_sub X [] rfl ?_
      exact hk169 _ _ h
    · have h := ite_f h hc
      refine wp_aload_n X dX0_firstUnlike_58 0 rfl ?_
      refine gf_X0_9 (o' := 3) X sh_2 rfl dX0_firstUnlike_59 ?_
      refine wp_iload X dX0_firstUnlike_62 4 rfl ?_
      obtain ⟨hb64, h⟩ := h
      refine wp_iald X sh_3 hb64 dX0_firstUnlike_64 ?_
      refine wp_bipush X dX0_firstUnlike_65 bi_57 ?_
      refine wp_idiv X dX0_firstUnlike_67 (by decide) ?_
      refine wp_iconst X dX0_firstUnlike_68 ic_1 ?_
      refine wp_isub X dX0_firstUnlike_69 ?_
      refine wp_topi (fun t70 et70 => ?_)
      have h := h t70 et70
      refine wp_istore (L' := [(7, .int t70), (0, .ref (ad Γ 2)), (1, .ref (ad Γ x1)), (3, .ref (ad Γ x3)), (5, .int x5), (6, .int x6)]) X dX0_firstUnlike_70 (by decide) rfl ?_
      refine wp_aload_n X dX0_firstUnlike_72 1 rfl ?_
      refine gf_X0_9 (o' := 3) X sh_2 rfl dX0_firstUnlike_73 ?_
      refine wp_iload X dX0_firstUnlike_76 5 rfl ?_
      obtain ⟨hb78, h⟩ := h
      refine wp_iald X sh_3 hb78 dX0_firstUnlike_78 ?_
      refine wp_bipush X dX0_firstUnlike_79 bi_57 ?_
      refine wp_irem X dX0_firstUnlike_81 (by decide) ?_
      refine wp_iconst X dX0_firstUnlike_82 ic_1 ?_
      refine wp_isub X dX0_firstUnlike_83 ?_
      refine wp_topi (fun t84 et84 => ?_)
      have h := h t84 et84
      refine wp_istore (L' := [(8, .int t84), (7, .int t70), (0, .ref (ad Γ 2)), (1, .ref (ad Γ x1)), (3, .ref (ad Γ x3)), (5, .int x5), (6, .int x6)]) X dX0_firstUnlike_84 (by decide) rfl ?_
      refine wp_aload_n X dX0_firstUnlike_86 3 rfl ?_
      refine wp_iload X dX0_firstUnlike_87 1 rfl ?_
      refine cv_Machine_answerAt X dX0_firstUnlike_89 ml_X0_137 hx1 h (Nat.le_of_ble_eq_true rfl) (by decide) (fun r89 I89 J89 h => ?_)
      refine wp_aload_n X dX0_firstUnlike_92 4 rfl ?_
      refine wp_iload X dX0_firstUnlike_93 0 rfl ?_
      refine cv_Machine_answerAt X dX0_firstUnlike_95 ml_X0_137 hx3 h (Nat.le_of_ble_eq_true rfl) (by decide) (fun r95 I95 J95 h => ?_)
      refine wp_icmp_eq (tgt := 109) X dX0_firstUnlike_98 (by decide) (fun hc => ?_) (fun hc => ?_)
      · have h := ite_t h hc
        refine wp_iconst X dX0_firstUnlike_109 ic_0 ?_
        refine wp_istore (L' := [(9, .int 0), (8, .int t84), (7, .int t70), (0, .ref (ad Γ 2)), (1, .ref (ad Γ x1)), (3, .ref (ad Γ x3)), (5, .int x5), (6, .int x6)]) X dX0_firstUnlike_110 (by decide) rfl ?_
        obtain ⟨n, h⟩ := h
        refine wp_sub X [3, 4, 5, 6, 7, 2, 1, 0] rfl ?_
        refine w_Chart_firstUnlike_L112 X Y hx1 hx3 ?_ n _ _ _ h
        · intro I J h
          obtain ⟨t163, et163⟩ : ∃ y : Int32, y = x6 + 1 := ⟨_, rfl⟩
          have h := h t163 et163
          refine wp_iinc (L' := [(6, .int t163), (0, .ref (ad Γ 2)), (1, .ref (ad Γ x1)), (3, .ref (ad Γ x3)), (5, .int x5)]) X dX0_firstUnlike_163 4 rfl (ii_1 et163) (by decide) rfl ?_
          refine wp_goto (tgt := 41) X dX0_firstUnlike_166 (by decide) ?_
          refine wp_sub X [1, 2, 3, 4, 0] rfl ?_
          exact ih _ _ _ h
      · have h := ite_f h hc
        refine wp_sub X [2, 6] rfl ?_
        exact hk101 _ _ _ h

set_option maxRecDepth 100000 in
set_option maxHeartbeats 4000000 in
theorem w_Chart_firstUnlike_b0 {Γ : Ctx} {Q : Int64 → MI → MJ → Prop} {x1 : Nat} {x2 : Int32} {x3 : Nat} {x4 : Int32}  (X : Cx Γ cX0_firstUnlike 10 RX0 2) (Y : Rt Γ (Pl Q) (Option.some Jvm.ClassFile.FieldType.long)) (hx1 : okM x1) (hx3 : okM x3)  {I : MI} {J : MJ} (h : f_Chart_firstUnlike x1 x2 x3 x4 I J Q) : Wp Γ 10 0 [(0, .ref (ad Γ 2)), (1, .ref (ad Γ x1)), (2, .int x2), (3, .ref (ad Γ x3)), (4, .int x4)] [] I J := by
  unfold f_Chart_firstUnlike at h
  refine wp_aload_n X dX0_firstUnlike_0 0 rfl ?_
  refine cv_Chart_wipe X dX0_firstUnlike_1 ml_X0_45  h (Nat.le_of_ble_eq_true rfl) (by decide) (fun I1 J1 h => ?_)
  refine wp_aload_n X dX0_firstUnlike_4 1 rfl ?_
  refine gf_X0_73 X hx1.1 dX0_firstUnlike_5 ?_
  refine wp_aload_n X dX0_firstUnlike_8 3 rfl ?_
  refine gf_X0_73 X hx3.1 dX0_firstUnlike_9 ?_
  refine wp_max X dX0_firstUnlike_12 ml_X0_131 mw_max (by decide) (Nat.le_of_ble_eq_true rfl) ?_
  refine wp_topi (fun t15 et15 => ?_)
  have h := h t15 et15
  refine wp_istore (L' := [(5, .int t15), (0, .ref (ad Γ 2)), (1, .ref (ad Γ x1)), (2, .int x2), (3, .ref (ad Γ x3)), (4, .int x4)]) X dX0_firstUnlike_15 (by decide) rfl ?_
  refine wp_aload_n X dX0_firstUnlike_17 1 rfl ?_
  refine wp_iload_n X dX0_firstUnlike_18 3 rfl ?_
  refine wp_iload X dX0_firstUnlike_19 5 rfl ?_
  refine cs_Chart_pairKey X dX0_firstUnlike_21 ml_X0_134  h (Nat.le_of_ble_eq_true rfl) (by decide) (fun r21 I21 J21 h => ?_)
  refine wp_sipush X dX0_firstUnlike_24 si_225 ?_
  refine cv_Chart_nodeOf X dX0_firstUnlike_27 ml_X0_57  h (Nat.le_of_ble_eq_true rfl) (by decide) (fun r27 I27 J27 h => ?_)
  refine wp_pop X dX0_firstUnlike_30 rfl ?_
  refine wp_aload_n X dX0_firstUnlike_31 1 rfl ?_
  refine gf_X0_21 (o' := 6) X sh_2 rfl dX0_firstUnlike_32 ?_
  refine wp_iconst X dX0_firstUnlike_35 ic_0 ?_
  refine wp_lconst X dX0_firstUnlike_36 lc_1 ?_
  obtain ⟨hb37, h⟩ := h
  refine wp_last X sh_6 hb37 dX0_firstUnlike_37 ?_
  refine wp_memJ (fun J37 eJ37 => ?_)
  have h := h J37 eJ37
  refine wp_iconst X dX0_firstUnlike_38 ic_0 ?_
  refine wp_istore (L' := [(6, .int 0), (5, .int t15), (0, .ref (ad Γ 2)), (1, .ref (ad Γ x1)), (2, .int x2), (3, .ref (ad Γ x3)), (4, .int x4)]) X dX0_firstUnlike_39 (by decide) rfl ?_
  obtain ⟨n, h⟩ := h
  refine wp_sub X [2, 3, 5, 1, 0] rfl ?_
  refine w_Chart_firstUnlike_L41 X Y hx1 hx3 ?_ ?_ n _ _ _ h
  · intro z101_x6 I J h
    refine wp_aload_n X dX0_firstUnlike_101 0 rfl ?_
    refine gf_X0_21 (o' := 6) X sh_2 rfl dX0_firstUnlike_102 ?_
    refine wp_iload X dX0_firstUnlike_105 1 rfl ?_
    obtain ⟨hb107, h⟩ := h
    refine wp_lald X sh_6 hb107 dX0_firstUnlike_107 ?_
    exact wp_lret X Y dX0_firstUnlike_108 ⟨_, rfl, h⟩
  · intro I J h
    refine wp_lconst X dX0_firstUnlike_169 lc_0 ?_
    exact wp_lret X Y dX0_firstUnlike_170 ⟨_, rfl, h⟩

theorem c_Chart_firstUnlike {l : Launch} {g : GE} (hg : Inj g) {I : MI} {J : MJ} {Q : Int64 → MI → MJ → Prop} {x1 : Nat} {x2 : Int32} {x3 : Nat} {x4 : Int32} (hx1 : okM x1) (hx3 : okM x3) (h : f_Chart_firstUnlike x1 x2 x3 x4 I J Q) : Cm l g yX0_firstUnlike cX0_firstUnlike 10 (Option.some Jvm.ClassFile.FieldType.long) 2 [.ref (g.1 2), .ref (g.1 x1), .int x2, .ref (g.1 x3), .int x4] I J (Pl Q) := by
  refine Cm.of (As := fun ad => [.ref (ad 2), .ref (ad x1), .int x2, .ref (ad x3), .int x4]) hg pn_X0 (Nat.le_of_ble_eq_true rfl) ?_
  exact (fun Γ _ _ X Y => w_Chart_firstUnlike_b0 X Y hx1 hx3 h)
theorem cv_Chart_firstUnlike {Γ : Ctx} {cc : ByteArray} {nL d pc index : Nat} {own : String} {L : List (Nat × Value)} {rest : List Value} {I : MI} {J : MJ} {Q : Int64 → MI → MJ → Prop} {x1 : Nat} {x2 : Int32} {x3 : Nat} {x4 : Int32} (X : Cx Γ cc nL own d) (hd : decode cc pc = .ok (.invokevirtual index, 3)) (hlink : Cond.methodLink own index yX0_firstUnlike ∈ TT) (hx1 : okM x1) (hx3 : okM x3) (h : f_Chart_firstUnlike x1 x2 x3 x4 I J Q) (hrest : (rest.map fun v => v.category).sum ≤ 8) (hdd : 2 + 1 ≤ d) (kk : ∀ (r : Int64) (I' : MI) (J' : MJ), Q r I' J' → Wp Γ nL (pc + 3) L (.long r :: rest) I' J') : Wp Γ nL pc L (.int x4 :: .ref (ad Γ x3) :: .int x2 :: .ref (ad Γ x1) :: .ref (ad Γ 2) :: rest) I J :=
  wp_callV (As := [.ref (ad Γ x1), .int x2, .ref (ad Γ x3), .int x4]) (rest := rest) (T := TX0) (N := 12) X hd hlink mv_X0_firstUnlike sh_2 (by decide) rfl (c_Chart_firstUnlike X.inj hx1 hx3 h) rfl rfl hrest hdd (fun v I' J' hv => by obtain ⟨r, rfl, hq⟩ := hv; exact kk r I' J' hq)
theorem dX10_differ_0 : decode cX10_differ 0 = .ok (.aload_n 0, 1) := by decide +kernel
theorem dX10_differ_1 : decode cX10_differ 1 = .ok (.iload_n 1, 1) := by decide +kernel
theorem dX10_differ_2 : decode cX10_differ 2 = .ok (.invokevirtual 162, 3) := by decide +kernel
theorem dX10_differ_5 : decode cX10_differ 5 = .ok (.astore_n 3, 1) := by decide +kernel
theorem dX10_differ_6 : decode cX10_differ 6 = .ok (.aload_n 0, 1) := by decide +kernel
theorem dX10_differ_7 : decode cX10_differ 7 = .ok (.iload_n 2, 1) := by decide +kernel
theorem dX10_differ_8 : decode cX10_differ 8 = .ok (.invokevirtual 162, 3) := by decide +kernel
theorem dX10_differ_11 : decode cX10_differ 11 = .ok (.astore 4, 2) := by decide +kernel
theorem dX10_differ_13 : decode cX10_differ 13 = .ok (.aload_n 3, 1) := by decide +kernel
theorem dX10_differ_14 : decode cX10_differ 14 = .ok (.ifnull 31, 3) := by decide +kernel
theorem dX10_differ_17 : decode cX10_differ 17 = .ok (.aload 4, 2) := by decide +kernel
theorem dX10_differ_19 : decode cX10_differ 19 = .ok (.ifnull 26, 3) := by decide +kernel
theorem dX10_differ_22 : decode cX10_differ 22 = .ok (.aload_n 0, 1) := by decide +kernel
theorem dX10_differ_23 : decode cX10_differ 23 = .ok (.getfield 18, 3) := by decide +kernel
theorem dX10_differ_26 : decode cX10_differ 26 = .ok (.aload_n 3, 1) := by decide +kernel
theorem dX10_differ_27 : decode cX10_differ 27 = .ok (.invokevirtual 197, 3) := by decide +kernel
theorem dX10_differ_30 : decode cX10_differ 30 = .ok (.ifCond .ne 15, 3) := by decide +kernel
theorem dX10_differ_33 : decode cX10_differ 33 = .ok (.aload_n 0, 1) := by decide +kernel
theorem dX10_differ_34 : decode cX10_differ 34 = .ok (.getfield 18, 3) := by decide +kernel
theorem dX10_differ_37 : decode cX10_differ 37 = .ok (.aload 4, 2) := by decide +kernel
theorem dX10_differ_39 : decode cX10_differ 39 = .ok (.invokevirtual 197, 3) := by decide +kernel
theorem dX10_differ_42 : decode cX10_differ 42 = .ok (.ifCond .eq 7, 3) := by decide +kernel
theorem dX10_differ_45 : decode cX10_differ 45 = .ok (.ldc2_w 183, 3) := by decide +kernel
theorem dX10_differ_48 : decode cX10_differ 48 = .ok (.lreturn, 1) := by decide +kernel
theorem dX10_differ_49 : decode cX10_differ 49 = .ok (.aload_n 0, 1) := by decide +kernel
theorem dX10_differ_50 : decode cX10_differ 50 = .ok (.getfield 18, 3) := by decide +kernel
theorem dX10_differ_53 : decode cX10_differ 53 = .ok (.aload_n 3, 1) := by decide +kernel
theorem dX10_differ_54 : decode cX10_differ 54 = .ok (.iconst 0, 1) := by decide +kernel
theorem dX10_differ_55 : decode cX10_differ 55 = .ok (.aload 4, 2) := by decide +kernel
theorem dX10_differ_57 : decode cX10_differ 57 = .ok (.iconst 0, 1) := by decide +kernel
theorem dX10_differ_58 : decode cX10_differ 58 = .ok (.invokevirtual 201, 3) := by decide +kernel
theorem dX10_differ_61 : decode cX10_differ 61 = .ok (.lreturn, 1) := by decide +kernel
def f_School_differ (x1 : Int32) (x2 : Int32) (I : MI) (J : MJ) (Q : Int64 → MI → MJ → Prop) : Prop :=
  f_School_machineAt x1 I J (fun r2 I2 J2 => f_School_machineAt x2 I2 J2 (fun r8 I8 J8 => (match r2 with | none => Q (-1) I8 J8 | some a14 => okM a14 ∧ (match r8 with | none => Q (-1) I8 J8 | some a19 => okM a19 ∧ f_Chart_isGreat a14 I8 J8 (fun r27 I27 J27 => (if r27 = 0 then f_Chart_isGreat a19 I27 J27 (fun r39 I39 J39 => (if r39 = 0 then f_Chart_firstUnlike a14 (0 : Int32) a19 (0 : Int32) I39 J39 (fun r58 I58 J58 => Q r58 I58 J58) else Q (-1) I39 J39)) else Q (-1) I27 J27))))))
set_option maxRecDepth 100000 in
set_option maxHeartbeats 4000000 in
theorem w_School_differ_b0 {Γ : Ctx} {Q : Int64 → MI → MJ → Prop} {x1 : Int32} {x2 : Int32}  (X : Cx Γ cX10_differ 5 RX10 6) (Y : Rt Γ (Pl Q) (Option.some Jvm.ClassFile.FieldType.long))   {I : MI} {J : MJ} (h : f_School_differ x1 x2 I J Q) : Wp Γ 5 0 [(0, .ref (ad Γ 0)), (1, .int x1), (2, .int x2)] [] I J := by
  unfold f_School_differ at h
  refine wp_aload_n X dX10_differ_0 0 rfl ?_
  refine wp_iload_n X dX10_differ_1 1 rfl ?_
  refine cv_School_machineAt X dX10_differ_2 ml_X10_162  h (Nat.le_of_ble_eq_true rfl) (by decide) (fun r2 I2 J2 h => ?_)
  refine wp_astore_nQ (L' := [(3, rfN (ad Γ) r2), (0, .ref (ad Γ 0)), (1, .int x1), (2, .int x2)]) X dX10_differ_5 rfl (by decide) rfl ?_
  refine wp_aload_n X dX10_differ_6 1 rfl ?_
  refine wp_iload_n X dX10_differ_7 3 rfl ?_
  refine cv_School_machineAt X dX10_differ_8 ml_X10_162  h (Nat.le_of_ble_eq_true rfl) (by decide) (fun r8 I8 J8 h => ?_)
  refine wp_astoreQ (L' := [(4, rfN (ad Γ) r8), (3, rfN (ad Γ) r2), (0, .ref (ad Γ 0)), (1, .int x1), (2, .int x2)]) X dX10_differ_11 (by decide) (by cases r2 <;> rfl) ?_
  refine wp_aload_nQ X dX10_differ_13 1 rfl ?_
  refine wp_ifnull (q := r2) (tgt := 45) X dX10_differ_14 (by decide) ?_ ?_
  · intro hq; subst hq
    refine wp_ldc2 X kl_X10_183 dX10_differ_45 ?_
    exact wp_lret X Y dX10_differ_48 ⟨_, rfl, h⟩
  · intro a14 hq; subst hq; obtain ⟨oka14, h⟩ := h
    refine wp_aloadQ X dX10_differ_17 0 rfl ?_
    refine wp_ifnull (q := r8) (tgt := 45) X dX10_differ_19 (by decide) ?_ ?_
    · intro hq; subst hq
      refine wp_ldc2 X kl_X10_183 dX10_differ_45 ?_
      exact wp_lret X Y dX10_differ_48 ⟨_, rfl, h⟩
    · intro a19 hq; subst hq; obtain ⟨oka19, h⟩ := h
      refine wp_aload_n X dX10_differ_22 2 rfl ?_
      refine gf_X10_18 (o' := 2) X sh_0 rfl dX10_differ_23 ?_
      refine wp_aload_n X dX10_differ_26 1 rfl ?_
      refine cv_Chart_isGreat X dX10_differ_27 ml_X10_197 oka14 h (Nat.le_of_ble_eq_true rfl) (by decide) (fun r27 I27 J27 h => ?_)
      refine wp_if_ne (tgt := 45) X dX10_differ_30 (by decide) (fun hc => ?_) (fun hc => ?_)
      · have h := ite_f h hc
        refine wp_ldc2 X kl_X10_183 dX10_differ_45 ?_
        exact wp_lret X Y dX10_differ_48 ⟨_, rfl, h⟩
      · have h := ite_t h hc
        refine wp_aload_n X dX10_differ_33 2 rfl ?_
        refine gf_X10_18 (o' := 2) X sh_0 rfl dX10_differ_34 ?_
        refine wp_aload X dX10_differ_37 0 rfl ?_
        refine cv_Chart_isGreat X dX10_differ_39 ml_X10_197 oka19 h (Nat.le_of_ble_eq_true rfl) (by decide) (fun r39 I39 J39 h => ?_)
        refine wp_if_eq (tgt := 49) X dX10_differ_42 (by decide) (fun hc => ?_) (fun hc => ?_)
        · have h := ite_t h hc
          refine wp_aload_n X dX10_differ_49 2 rfl ?_
          refine gf_X10_18 (o' := 2) X sh_0 rfl dX10_differ_50 ?_
          refine wp_aload_n X dX10_differ_53 1 rfl ?_
          refine wp_iconst X dX10_differ_54 ic_0 ?_
          refine wp_aload X dX10_differ_55 0 rfl ?_
          refine wp_iconst X dX10_differ_57 ic_0 ?_
          refine cv_Chart_firstUnlike X dX10_differ_58 ml_X10_201 oka14 oka19 h (Nat.le_of_ble_eq_true rfl) (by decide) (fun r58 I58 J58 h => ?_)
          exact wp_lret X Y dX10_differ_61 ⟨_, rfl, h⟩
        · have h := ite_f h hc
          refine wp_ldc2 X kl_X10_183 dX10_differ_45 ?_
          exact wp_lret X Y dX10_differ_48 ⟨_, rfl, h⟩

theorem c_School_differ {l : Launch} {g : GE} (hg : Inj g) {I : MI} {J : MJ} {Q : Int64 → MI → MJ → Prop} {x1 : Int32} {x2 : Int32}  (h : f_School_differ x1 x2 I J Q) : Cm l g yX10_differ cX10_differ 5 (Option.some Jvm.ClassFile.FieldType.long) 6 [.ref (g.1 0), .int x1, .int x2] I J (Pl Q) := by
  refine Cm.of (As := fun ad => [.ref (ad 0), .int x1, .int x2]) hg pn_X10 (Nat.le_of_ble_eq_true rfl) ?_
  exact (fun Γ _ _ X Y => w_School_differ_b0 X Y  h)
theorem cv_School_differ {Γ : Ctx} {cc : ByteArray} {nL d pc index : Nat} {own : String} {L : List (Nat × Value)} {rest : List Value} {I : MI} {J : MJ} {Q : Int64 → MI → MJ → Prop} {x1 : Int32} {x2 : Int32} (X : Cx Γ cc nL own d) (hd : decode cc pc = .ok (.invokevirtual index, 3)) (hlink : Cond.methodLink own index yX10_differ ∈ TT)  (h : f_School_differ x1 x2 I J Q) (hrest : (rest.map fun v => v.category).sum ≤ 8) (hdd : 6 + 1 ≤ d) (kk : ∀ (r : Int64) (I' : MI) (J' : MJ), Q r I' J' → Wp Γ nL (pc + 3) L (.long r :: rest) I' J') : Wp Γ nL pc L (.int x2 :: .int x1 :: .ref (ad Γ 0) :: rest) I J :=
  wp_callV (As := [.int x1, .int x2]) (rest := rest) (T := TX10) (N := 9) X hd hlink mv_X10_differ sh_0 (by decide) rfl (c_School_differ X.inj  h) rfl rfl hrest hdd (fun v I' J' hv => by obtain ⟨r, rfl, hq⟩ := hv; exact kk r I' J' hq)
theorem dX0_areAlike_0 : decode cX0_areAlike 0 = .ok (.aload_n 0, 1) := by decide +kernel
theorem dX0_areAlike_1 : decode cX0_areAlike 1 = .ok (.getfield 28, 3) := by decide +kernel
theorem dX0_areAlike_4 : decode cX0_areAlike 4 = .ok (.iload_n 1, 1) := by decide +kernel
theorem dX0_areAlike_5 : decode cX0_areAlike 5 = .ok (.iaload, 1) := by decide +kernel
theorem dX0_areAlike_6 : decode cX0_areAlike 6 = .ok (.aload_n 0, 1) := by decide +kernel
theorem dX0_areAlike_7 : decode cX0_areAlike 7 = .ok (.getfield 28, 3) := by decide +kernel
theorem dX0_areAlike_10 : decode cX0_areAlike 10 = .ok (.iload_n 2, 1) := by decide +kernel
theorem dX0_areAlike_11 : decode cX0_areAlike 11 = .ok (.iaload, 1) := by decide +kernel
theorem dX0_areAlike_12 : decode cX0_areAlike 12 = .ok (.if_icmp .eq 5, 3) := by decide +kernel
theorem dX0_areAlike_15 : decode cX0_areAlike 15 = .ok (.iconst 0, 1) := by decide +kernel
theorem dX0_areAlike_16 : decode cX0_areAlike 16 = .ok (.ireturn, 1) := by decide +kernel
theorem dX0_areAlike_17 : decode cX0_areAlike 17 = .ok (.iconst 0, 1) := by decide +kernel
theorem dX0_areAlike_18 : decode cX0_areAlike 18 = .ok (.istore_n 3, 1) := by decide +kernel
theorem dX0_areAlike_19 : decode cX0_areAlike 19 = .ok (.iload_n 3, 1) := by decide +kernel
theorem dX0_areAlike_20 : decode cX0_areAlike 20 = .ok (.aload_n 0, 1) := by decide +kernel
theorem dX0_areAlike_21 : decode cX0_areAlike 21 = .ok (.getfield 48, 3) := by decide +kernel
theorem dX0_areAlike_24 : decode cX0_areAlike 24 = .ok (.if_icmp .ge 69, 3) := by decide +kernel
theorem dX0_areAlike_27 : decode cX0_areAlike 27 = .ok (.aload_n 0, 1) := by decide +kernel
theorem dX0_areAlike_28 : decode cX0_areAlike 28 = .ok (.getfield 25, 3) := by decide +kernel
theorem dX0_areAlike_31 : decode cX0_areAlike 31 = .ok (.iload_n 1, 1) := by decide +kernel
theorem dX0_areAlike_32 : decode cX0_areAlike 32 = .ok (.iconst 4, 1) := by decide +kernel
theorem dX0_areAlike_33 : decode cX0_areAlike 33 = .ok (.imul, 1) := by decide +kernel
theorem dX0_areAlike_34 : decode cX0_areAlike 34 = .ok (.iload_n 3, 1) := by decide +kernel
theorem dX0_areAlike_35 : decode cX0_areAlike 35 = .ok (.iadd, 1) := by decide +kernel
theorem dX0_areAlike_36 : decode cX0_areAlike 36 = .ok (.iaload, 1) := by decide +kernel
theorem dX0_areAlike_37 : decode cX0_areAlike 37 = .ok (.istore 4, 2) := by decide +kernel
theorem dX0_areAlike_39 : decode cX0_areAlike 39 = .ok (.aload_n 0, 1) := by decide +kernel
theorem dX0_areAlike_40 : decode cX0_areAlike 40 = .ok (.getfield 25, 3) := by decide +kernel
theorem dX0_areAlike_43 : decode cX0_areAlike 43 = .ok (.iload_n 2, 1) := by decide +kernel
theorem dX0_areAlike_44 : decode cX0_areAlike 44 = .ok (.iconst 4, 1) := by decide +kernel
theorem dX0_areAlike_45 : decode cX0_areAlike 45 = .ok (.imul, 1) := by decide +kernel
theorem dX0_areAlike_46 : decode cX0_areAlike 46 = .ok (.iload_n 3, 1) := by decide +kernel
theorem dX0_areAlike_47 : decode cX0_areAlike 47 = .ok (.iadd, 1) := by decide +kernel
theorem dX0_areAlike_48 : decode cX0_areAlike 48 = .ok (.iaload, 1) := by decide +kernel
theorem dX0_areAlike_49 : decode cX0_areAlike 49 = .ok (.istore 5, 2) := by decide +kernel
theorem dX0_areAlike_51 : decode cX0_areAlike 51 = .ok (.iload 4, 2) := by decide +kernel
theorem dX0_areAlike_53 : decode cX0_areAlike 53 = .ok (.iload 5, 2) := by decide +kernel
theorem dX0_areAlike_55 : decode cX0_areAlike 55 = .ok (.if_icmp .eq 32, 3) := by decide +kernel
theorem dX0_areAlike_58 : decode cX0_areAlike 58 = .ok (.iload 4, 2) := by decide +kernel
theorem dX0_areAlike_60 : decode cX0_areAlike 60 = .ok (.ifCond .lt 25, 3) := by decide +kernel
theorem dX0_areAlike_63 : decode cX0_areAlike 63 = .ok (.iload 5, 2) := by decide +kernel
theorem dX0_areAlike_65 : decode cX0_areAlike 65 = .ok (.ifCond .lt 20, 3) := by decide +kernel
theorem dX0_areAlike_68 : decode cX0_areAlike 68 = .ok (.aload_n 0, 1) := by decide +kernel
theorem dX0_areAlike_69 : decode cX0_areAlike 69 = .ok (.getfield 31, 3) := by decide +kernel
theorem dX0_areAlike_72 : decode cX0_areAlike 72 = .ok (.iload 4, 2) := by decide +kernel
theorem dX0_areAlike_74 : decode cX0_areAlike 74 = .ok (.iaload, 1) := by decide +kernel
theorem dX0_areAlike_75 : decode cX0_areAlike 75 = .ok (.aload_n 0, 1) := by decide +kernel
theorem dX0_areAlike_76 : decode cX0_areAlike 76 = .ok (.getfield 31, 3) := by decide +kernel
theorem dX0_areAlike_79 : decode cX0_areAlike 79 = .ok (.iload 5, 2) := by decide +kernel
theorem dX0_areAlike_81 : decode cX0_areAlike 81 = .ok (.iaload, 1) := by decide +kernel
theorem dX0_areAlike_82 : decode cX0_areAlike 82 = .ok (.if_icmp .eq 5, 3) := by decide +kernel
theorem dX0_areAlike_85 : decode cX0_areAlike 85 = .ok (.iconst 0, 1) := by decide +kernel
theorem dX0_areAlike_86 : decode cX0_areAlike 86 = .ok (.ireturn, 1) := by decide +kernel
theorem dX0_areAlike_87 : decode cX0_areAlike 87 = .ok (.iinc 3 1, 3) := by decide +kernel
theorem dX0_areAlike_90 : decode cX0_areAlike 90 = .ok (.goto (-71), 3) := by decide +kernel
theorem dX0_areAlike_93 : decode cX0_areAlike 93 = .ok (.iconst 1, 1) := by decide +kernel
theorem dX0_areAlike_94 : decode cX0_areAlike 94 = .ok (.ireturn, 1) := by decide +kernel
def f_Chart_areAlike_b87 (x3 : Int32) (kh : Int32 → MI → MJ → Prop) (I : MI) (J : MJ) : Prop :=
  ∀ t87 : Int32, t87 = x3 + 1 → kh t87 I J
def f_Chart_areAlike_L19 (x1 : Int32) (x2 : Int32) (k85 : MI → MJ → Prop) (k93 : MI → MJ → Prop) : Nat → Int32 → MI → MJ → Prop
  | 0, _, _, _ => False
  | nf19 + 1, x3, I, J =>
  (if (I 2 1) ≤ x3 then k93 I J else vp_in ((x1 * 4) + x3) 900 ∧ ∀ t37 : Int32, t37 = I 7 ((x1 * 4) + x3).toNatClampNeg → vp_in ((x2 * 4) + x3) 900 ∧ ∀ t49 : Int32, t49 = I 7 ((x2 * 4) + x3).toNatClampNeg → (if t37 = t49 then f_Chart_areAlike_b87 x3 (f_Chart_areAlike_L19 x1 x2 k85 k93 nf19) I J else (if t37 < 0 then k85 I J else (if t49 < 0 then k85 I J else vp_in t37 225 ∧ vp_in t49 225 ∧ (if (I 9 t37.toNatClampNeg) = (I 9 t49.toNatClampNeg) then f_Chart_areAlike_b87 x3 (f_Chart_areAlike_L19 x1 x2 k85 k93 nf19) I J else k85 I J)))))
def f_Chart_areAlike (x1 : Int32) (x2 : Int32) (I : MI) (J : MJ) (Q : Int32 → MI → MJ → Prop) : Prop :=
  vp_in x1 225 ∧ vp_in x2 225 ∧ (if (I 8 x1.toNatClampNeg) = (I 8 x2.toNatClampNeg) then ∃ n, f_Chart_areAlike_L19 x1 x2 (fun (I : MI) (J : MJ) => Q 0 I J) (fun (I : MI) (J : MJ) => Q 1 I J) n 0 I J else Q 0 I J)
set_option maxRecDepth 100000 in
set_option maxHeartbeats 4000000 in
theorem w_Chart_areAlike_b87 {Γ : Ctx} {Q : Int32 → MI → MJ → Prop} {x1 : Int32} {x2 : Int32} {x3 : Int32} {kh : Int32 → MI → MJ → Prop} (X : Cx Γ cX0_areAlike 6 RX0 0) (Y : Rt Γ (Pi Q) (Option.some Jvm.ClassFile.FieldType.boolean))  (hkh : ∀ (x3 : Int32) (I : MI) (J : MJ), kh x3 I J → Wp Γ 6 19 [(0, .ref (ad Γ 2)), (1, .int x1), (2, .int x2), (3, .int x3)] [] I J) {I : MI} {J : MJ} (h : f_Chart_areAlike_b87 x3 kh I J) : Wp Γ 6 87 [(0, .ref (ad Γ 2)), (1, .int x1), (2, .int x2), (3, .int x3)] [] I J := by
  unfold f_Chart_areAlike_b87 at h
  obtain ⟨t87, et87⟩ : ∃ y : Int32, y = x3 + 1 := ⟨_, rfl⟩
  have h := h t87 et87
  refine wp_iinc (L' := [(3, .int t87), (0, .ref (ad Γ 2)), (1, .int x1), (2, .int x2)]) X dX0_areAlike_87 3 rfl (ii_1 et87) (by decide) rfl ?_
  refine wp_goto (tgt := 19) X dX0_areAlike_90 (by decide) ?_
  refine wp_sub X [1, 2, 3, 0] rfl ?_
  exact hkh _ _ _ h

set_option maxRecDepth 100000 in
set_option maxHeartbeats 4000000 in
theorem w_Chart_areAlike_L19 {Γ : Ctx} {Q : Int32 → MI → MJ → Prop} {x1 : Int32} {x2 : Int32} {k85 : MI → MJ → Prop} {k93 : MI → MJ → Prop} (X : Cx Γ cX0_areAlike 6 RX0 0) (Y : Rt Γ (Pi Q) (Option.some Jvm.ClassFile.FieldType.boolean))  (hk85 : ∀ (I : MI) (J : MJ), k85 I J → Wp Γ 6 85 [] [] I J) (hk93 : ∀ (I : MI) (J : MJ), k93 I J → Wp Γ 6 93 [] [] I J) : ∀ (n : Nat) (x3 : Int32) (I : MI) (J : MJ), f_Chart_areAlike_L19 x1 x2 k85 k93 n x3 I J → Wp Γ 6 19 [(0, .ref (ad Γ 2)), (1, .int x1), (2, .int x2), (3, .int x3)] [] I J := by
  intro n
  induction n with
  | zero => intro x3 I J h; exact absurd h (by simp [f_Chart_areAlike_L19])
  | succ n ih =>
  intro x3 I J h
  unfold f_Chart_areAlike_L19 at h
  refine wp_iload_n X dX0_areAlike_19 3 rfl ?_
  refine wp_aload_n X dX0_areAlike_20 0 rfl ?_
  refine gf_X0_48 X sh_2 dX0_areAlike_21 ?_
  refine wp_icmp_ge (tgt := 93) X dX0_areAlike_24 (by decide) (fun hc => ?_) (fun hc => ?_)
  · have h := ite_t h hc
    refine wp_sub X [] rfl ?_
    exact hk93 _ _ h
  · have h := ite_f h hc
    refine wp_aload_n X dX0_areAlike_27 0 rfl ?_
    refine gf_X0_25 (o' := 7) X sh_2 rfl dX0_areAlike_28 ?_
    refine wp_iload_n X dX0_areAlike_31 1 rfl ?_
    refine wp_iconst X dX0_areAlike_32 ic_4 ?_
    refine wp_imul X dX0_areAlike_33 ?_
    refine wp_iload_n X dX0_areAlike_34 3 rfl ?_
    refine wp_iadd X dX0_areAlike_35 ?_
    obtain ⟨hb36, h⟩ := h
    refine wp_iald X sh_7 hb36 dX0_areAlike_36 ?_
    refine wp_topi (fun t37 et37 => ?_)
    have h := h t37 et37
    refine wp_istore (L' := [(4, .int t37), (0, .ref (ad Γ 2)), (1, .int x1), (2, .int x2), (3, .int x3)]) X dX0_areAlike_37 (by decide) rfl ?_
    refine wp_aload_n X dX0_areAlike_39 1 rfl ?_
    refine gf_X0_25 (o' := 7) X sh_2 rfl dX0_areAlike_40 ?_
    refine wp_iload_n X dX0_areAlike_43 3 rfl ?_
    refine wp_iconst X dX0_areAlike_44 ic_4 ?_
    refine wp_imul X dX0_areAlike_45 ?_
    refine wp_iload_n X dX0_areAlike_46 4 rfl ?_
    refine wp_iadd X dX0_areAlike_47 ?_
    obtain ⟨hb48, h⟩ := h
    refine wp_iald X sh_7 hb48 dX0_areAlike_48 ?_
    refine wp_topi (fun t49 et49 => ?_)
    have h := h t49 et49
    refine wp_istore (L' := [(5, .int t49), (4, .int t37), (0, .ref (ad Γ 2)), (1, .int x1), (2, .int x2), (3, .int x3)]) X dX0_areAlike_49 (by decide) rfl ?_
    refine wp_iload X dX0_areAlike_51 1 rfl ?_
    refine wp_iload X dX0_areAlike_53 0 rfl ?_
    refine wp_icmp_eq (tgt := 87) X dX0_areAlike_55 (by decide) (fun hc => ?_) (fun hc => ?_)
    · have h := ite_t h hc
      refine wp_sub X [2, 3, 4, 5] rfl ?_
      exact w_Chart_areAlike_b87 X Y ih h
    · have h := ite_f h hc
      refine wp_iload X dX0_areAlike_58 1 rfl ?_
      refine wp_if_lt (tgt := 85) X dX0_areAlike_60 (by decide) (fun hc => ?_) (fun hc => ?_)
      · have h := ite_t h hc
        refine wp_sub X [] rfl ?_
        exact hk85 _ _ h
      · have h := ite_f h hc
        refine wp_iload X dX0_areAlike_63 0 rfl ?_
        refine wp_if_lt (tgt := 85) X dX0_areAlike_65 (by decide) (fun hc => ?_) (fun hc => ?_)
        · have h := ite_t h hc
          refine wp_sub X [] rfl ?_
          exact hk85 _ _ h
        · have h := ite_f h hc
          refine wp_aload_n X dX0_areAlike_68 2 rfl ?_
          refine gf_X0_31 (o' := 9) X sh_2 rfl dX0_areAlike_69 ?_
          refine wp_iload X dX0_areAlike_72 1 rfl ?_
          obtain ⟨hb74, h⟩ := h
          refine wp_iald X sh_9 hb74 dX0_areAlike_74 ?_
          refine wp_aload_n X dX0_areAlike_75 2 rfl ?_
          refine gf_X0_31 (o' := 9) X sh_2 rfl dX0_areAlike_76 ?_
          refine wp_iload X dX0_areAlike_79 0 rfl ?_
          obtain ⟨hb81, h⟩ := h
          refine wp_iald X sh_9 hb81 dX0_areAlike_81 ?_
          refine wp_icmp_eq (tgt := 87) X dX0_areAlike_82 (by decide) (fun hc => ?_) (fun hc => ?_)
          · have h := ite_t h hc
            refine wp_sub X [2, 3, 4, 5] rfl ?_
            exact w_Chart_areAlike_b87 X Y ih h
          · have h := ite_f h hc
            refine wp_sub X [] rfl ?_
            exact hk85 _ _ h

set_option maxRecDepth 100000 in
set_option maxHeartbeats 4000000 in
theorem w_Chart_areAlike_b0 {Γ : Ctx} {Q : Int32 → MI → MJ → Prop} {x1 : Int32} {x2 : Int32}  (X : Cx Γ cX0_areAlike 6 RX0 0) (Y : Rt Γ (Pi Q) (Option.some Jvm.ClassFile.FieldType.boolean))   {I : MI} {J : MJ} (h : f_Chart_areAlike x1 x2 I J Q) : Wp Γ 6 0 [(0, .ref (ad Γ 2)), (1, .int x1), (2, .int x2)] [] I J := by
  unfold f_Chart_areAlike at h
  refine wp_aload_n X dX0_areAlike_0 0 rfl ?_
  refine gf_X0_28 (o' := 8) X sh_2 rfl dX0_areAlike_1 ?_
  refine wp_iload_n X dX0_areAlike_4 1 rfl ?_
  obtain ⟨hb5, h⟩ := h
  refine wp_iald X sh_8 hb5 dX0_areAlike_5 ?_
  refine wp_aload_n X dX0_areAlike_6 0 rfl ?_
  refine gf_X0_28 (o' := 8) X sh_2 rfl dX0_areAlike_7 ?_
  refine wp_iload_n X dX0_areAlike_10 2 rfl ?_
  obtain ⟨hb11, h⟩ := h
  refine wp_iald X sh_8 hb11 dX0_areAlike_11 ?_
  refine wp_icmp_eq (tgt := 17) X dX0_areAlike_12 (by decide) (fun hc => ?_) (fun hc => ?_)
  · have h := ite_t h hc
    refine wp_iconst X dX0_areAlike_17 ic_0 ?_
    refine wp_istore_n (L' := [(3, .int 0), (0, .ref (ad Γ 2)), (1, .int x1), (2, .int x2)]) X dX0_areAlike_18 rfl (by decide) rfl ?_
    obtain ⟨n, h⟩ := h
    refine wp_sub X [1, 2, 3, 0] rfl ?_
    refine w_Chart_areAlike_L19 X Y  ?_ ?_ n _ _ _ h
    · intro I J h
      refine wp_iconst X dX0_areAlike_85 ic_0 ?_
      exact wp_zret X Y dX0_areAlike_86 (by decide) ⟨_, rfl, h⟩
    · intro I J h
      refine wp_iconst X dX0_areAlike_93 ic_1 ?_
      exact wp_zret X Y dX0_areAlike_94 (by decide) ⟨_, rfl, h⟩
  · have h := ite_f h hc
    refine wp_iconst X dX0_areAlike_15 ic_0 ?_
    exact wp_zret X Y dX0_areAlike_16 (by decide) ⟨_, rfl, h⟩

theorem c_Chart_areAlike {l : Launch} {g : GE} (hg : Inj g) {I : MI} {J : MJ} {Q : Int32 → MI → MJ → Prop} {x1 : Int32} {x2 : Int32}  (h : f_Chart_areAlike x1 x2 I J Q) : Cm l g yX0_areAlike cX0_areAlike 6 (Option.some Jvm.ClassFile.FieldType.boolean) 0 [.ref (g.1 2), .int x1, .int x2] I J (Pi Q) := by
  refine Cm.of (As := fun ad => [.ref (ad 2), .int x1, .int x2]) hg pn_X0 (Nat.le_of_ble_eq_true rfl) ?_
  exact (fun Γ _ _ X Y => w_Chart_areAlike_b0 X Y  h)
theorem cv_Chart_areAlike {Γ : Ctx} {cc : ByteArray} {nL d pc index : Nat} {own : String} {L : List (Nat × Value)} {rest : List Value} {I : MI} {J : MJ} {Q : Int32 → MI → MJ → Prop} {x1 : Int32} {x2 : Int32} (X : Cx Γ cc nL own d) (hd : decode cc pc = .ok (.invokevirtual index, 3)) (hlink : Cond.methodLink own index yX0_areAlike ∈ TT)  (h : f_Chart_areAlike x1 x2 I J Q) (hrest : (rest.map fun v => v.category).sum ≤ 8) (hdd : 0 + 1 ≤ d) (kk : ∀ (r : Int32) (I' : MI) (J' : MJ), Q r I' J' → Wp Γ nL (pc + 3) L (.int r :: rest) I' J') : Wp Γ nL pc L (.int x2 :: .int x1 :: .ref (ad Γ 2) :: rest) I J :=
  wp_callV (As := [.int x1, .int x2]) (rest := rest) (T := TX0) (N := 12) X hd hlink mv_X0_areAlike sh_2 (by decide) rfl (c_Chart_areAlike X.inj  h) rfl rfl hrest hdd (fun v I' J' hv => by obtain ⟨r, rfl, hq⟩ := hv; exact kk r I' J' hq)
theorem dX0_groupLike_0 : decode cX0_groupLike 0 = .ok (.iconst 0, 1) := by decide +kernel
theorem dX0_groupLike_1 : decode cX0_groupLike 1 = .ok (.istore_n 2, 1) := by decide +kernel
theorem dX0_groupLike_2 : decode cX0_groupLike 2 = .ok (.iload_n 2, 1) := by decide +kernel
theorem dX0_groupLike_3 : decode cX0_groupLike 3 = .ok (.aload_n 0, 1) := by decide +kernel
theorem dX0_groupLike_4 : decode cX0_groupLike 4 = .ok (.getfield 80, 3) := by decide +kernel
theorem dX0_groupLike_7 : decode cX0_groupLike 7 = .ok (.if_icmp .ge 25, 3) := by decide +kernel
theorem dX0_groupLike_10 : decode cX0_groupLike 10 = .ok (.aload_n 0, 1) := by decide +kernel
theorem dX0_groupLike_11 : decode cX0_groupLike 11 = .ok (.iload_n 1, 1) := by decide +kernel
theorem dX0_groupLike_12 : decode cX0_groupLike 12 = .ok (.aload_n 0, 1) := by decide +kernel
theorem dX0_groupLike_13 : decode cX0_groupLike 13 = .ok (.getfield 37, 3) := by decide +kernel
theorem dX0_groupLike_16 : decode cX0_groupLike 16 = .ok (.iload_n 2, 1) := by decide +kernel
theorem dX0_groupLike_17 : decode cX0_groupLike 17 = .ok (.iaload, 1) := by decide +kernel
theorem dX0_groupLike_18 : decode cX0_groupLike 18 = .ok (.invokevirtual 95, 3) := by decide +kernel
theorem dX0_groupLike_21 : decode cX0_groupLike 21 = .ok (.ifCond .eq 5, 3) := by decide +kernel
theorem dX0_groupLike_24 : decode cX0_groupLike 24 = .ok (.iload_n 2, 1) := by decide +kernel
theorem dX0_groupLike_25 : decode cX0_groupLike 25 = .ok (.ireturn, 1) := by decide +kernel
theorem dX0_groupLike_26 : decode cX0_groupLike 26 = .ok (.iinc 2 1, 3) := by decide +kernel
theorem dX0_groupLike_29 : decode cX0_groupLike 29 = .ok (.goto (-27), 3) := by decide +kernel
theorem dX0_groupLike_32 : decode cX0_groupLike 32 = .ok (.aload_n 0, 1) := by decide +kernel
theorem dX0_groupLike_33 : decode cX0_groupLike 33 = .ok (.getfield 80, 3) := by decide +kernel
theorem dX0_groupLike_36 : decode cX0_groupLike 36 = .ok (.ireturn, 1) := by decide +kernel
def f_Chart_groupLike_L2 (x1 : Int32) (k24 : Int32 → MI → MJ → Prop) (k32 : MI → MJ → Prop) : Nat → Int32 → MI → MJ → Prop
  | 0, _, _, _ => False
  | nf2 + 1, x2, I, J =>
  (if (I 2 2) ≤ x2 then k32 I J else vp_in x2 14 ∧ f_Chart_areAlike x1 (I 11 x2.toNatClampNeg) I J (fun r18 I18 J18 => (if r18 = 0 then ∀ t26 : Int32, t26 = x2 + 1 → f_Chart_groupLike_L2 x1 k24 k32 nf2 t26 I18 J18 else k24 x2 I18 J18)))
def f_Chart_groupLike (x1 : Int32) (I : MI) (J : MJ) (Q : Int32 → MI → MJ → Prop) : Prop :=
  ∃ n, f_Chart_groupLike_L2 x1 (fun (z24_x2 : Int32) (I : MI) (J : MJ) => Q z24_x2 I J) (fun (I : MI) (J : MJ) => Q (I 2 2) I J) n 0 I J
set_option maxRecDepth 100000 in
set_option maxHeartbeats 4000000 in
theorem w_Chart_groupLike_L2 {Γ : Ctx} {Q : Int32 → MI → MJ → Prop} {x1 : Int32} {k24 : Int32 → MI → MJ → Prop} {k32 : MI → MJ → Prop} (X : Cx Γ cX0_groupLike 3 RX0 1) (Y : Rt Γ (Pi Q) (Option.some Jvm.ClassFile.FieldType.int))  (hk24 : ∀ (x2 : Int32) (I : MI) (J : MJ), k24 x2 I J → Wp Γ 3 24 [(2, .int x2)] [] I J) (hk32 : ∀ (I : MI) (J : MJ), k32 I J → Wp Γ 3 32 [(0, .ref (ad Γ 2))] [] I J) : ∀ (n : Nat) (x2 : Int32) (I : MI) (J : MJ), f_Chart_groupLike_L2 x1 k24 k32 n x2 I J → Wp Γ 3 2 [(0, .ref (ad Γ 2)), (1, .int x1), (2, .int x2)] [] I J := by
  intro n
  induction n with
  | zero => intro x2 I J h; exact absurd h (by simp [f_Chart_groupLike_L2])
  | succ n ih =>
  intro x2 I J h
  unfold f_Chart_groupLike_L2 at h
  refine wp_iload_n X dX0_groupLike_2 2 rfl ?_
  refine wp_aload_n X dX0_groupLike_3 0 rfl ?_
  refine gf_X0_80 X sh_2 dX0_groupLike_4 ?_
  refine wp_icmp_ge (tgt := 32) X dX0_groupLike_7 (by decide) (fun hc => ?_) (fun hc => ?_)
  · have h := ite_t h hc
    refine wp_sub X [0] rfl ?_
    exact hk32 _ _ h
  · have h := ite_f h hc
    refine wp_aload_n X dX0_groupLike_10 0 rfl ?_
    refine wp_iload_n X dX0_groupLike_11 1 rfl ?_
    refine wp_aload_n X dX0_groupLike_12 0 rfl ?_
    refine gf_X0_37 (o' := 11) X sh_2 rfl dX0_groupLike_13 ?_
    refine wp_iload_n X dX0_groupLike_16 2 rfl ?_
    obtain ⟨hb17, h⟩ := h
    refine wp_iald X sh_11 hb17 dX0_groupLike_17 ?_
    refine cv_Chart_areAlike X dX0_groupLike_18 ml_X0_95  h (Nat.le_of_ble_eq_true rfl) (by decide) (fun r18 I18 J18 h => ?_)
    refine wp_if_eq (tgt := 26) X dX0_groupLike_21 (by decide) (fun hc => ?_) (fun hc => ?_)
    · have h := ite_t h hc
      obtain ⟨t26, et26⟩ : ∃ y : Int32, y = x2 + 1 := ⟨_, rfl⟩
      have h := h t26 et26
      refine wp_iinc (L' := [(2, .int t26), (0, .ref (ad Γ 2)), (1, .int x1)]) X dX0_groupLike_26 2 rfl (ii_1 et26) (by decide) rfl ?_
      refine wp_goto (tgt := 2) X dX0_groupLike_29 (by decide) ?_
      refine wp_sub X [1, 2, 0] rfl ?_
      exact ih _ _ _ h
    · have h := ite_f h hc
      refine wp_sub X [2] rfl ?_
      exact hk24 _ _ _ h

set_option maxRecDepth 100000 in
set_option maxHeartbeats 4000000 in
theorem w_Chart_groupLike_b0 {Γ : Ctx} {Q : Int32 → MI → MJ → Prop} {x1 : Int32}  (X : Cx Γ cX0_groupLike 3 RX0 1) (Y : Rt Γ (Pi Q) (Option.some Jvm.ClassFile.FieldType.int))   {I : MI} {J : MJ} (h : f_Chart_groupLike x1 I J Q) : Wp Γ 3 0 [(0, .ref (ad Γ 2)), (1, .int x1)] [] I J := by
  unfold f_Chart_groupLike at h
  refine wp_iconst X dX0_groupLike_0 ic_0 ?_
  refine wp_istore_n (L' := [(2, .int 0), (0, .ref (ad Γ 2)), (1, .int x1)]) X dX0_groupLike_1 rfl (by decide) rfl ?_
  obtain ⟨n, h⟩ := h
  refine wp_sub X [1, 2, 0] rfl ?_
  refine w_Chart_groupLike_L2 X Y  ?_ ?_ n _ _ _ h
  · intro z24_x2 I J h
    refine wp_iload_n X dX0_groupLike_24 0 rfl ?_
    exact wp_iret X Y dX0_groupLike_25 ⟨_, rfl, h⟩
  · intro I J h
    refine wp_aload_n X dX0_groupLike_32 0 rfl ?_
    refine gf_X0_80 X sh_2 dX0_groupLike_33 ?_
    exact wp_iret X Y dX0_groupLike_36 ⟨_, rfl, h⟩

theorem c_Chart_groupLike {l : Launch} {g : GE} (hg : Inj g) {I : MI} {J : MJ} {Q : Int32 → MI → MJ → Prop} {x1 : Int32}  (h : f_Chart_groupLike x1 I J Q) : Cm l g yX0_groupLike cX0_groupLike 3 (Option.some Jvm.ClassFile.FieldType.int) 1 [.ref (g.1 2), .int x1] I J (Pi Q) := by
  refine Cm.of (As := fun ad => [.ref (ad 2), .int x1]) hg pn_X0 (Nat.le_of_ble_eq_true rfl) ?_
  exact (fun Γ _ _ X Y => w_Chart_groupLike_b0 X Y  h)
theorem cv_Chart_groupLike {Γ : Ctx} {cc : ByteArray} {nL d pc index : Nat} {own : String} {L : List (Nat × Value)} {rest : List Value} {I : MI} {J : MJ} {Q : Int32 → MI → MJ → Prop} {x1 : Int32} (X : Cx Γ cc nL own d) (hd : decode cc pc = .ok (.invokevirtual index, 3)) (hlink : Cond.methodLink own index yX0_groupLike ∈ TT)  (h : f_Chart_groupLike x1 I J Q) (hrest : (rest.map fun v => v.category).sum ≤ 8) (hdd : 1 + 1 ≤ d) (kk : ∀ (r : Int32) (I' : MI) (J' : MJ), Q r I' J' → Wp Γ nL (pc + 3) L (.int r :: rest) I' J') : Wp Γ nL pc L (.int x1 :: .ref (ad Γ 2) :: rest) I J :=
  wp_callV (As := [.int x1]) (rest := rest) (T := TX0) (N := 12) X hd hlink mv_X0_groupLike sh_2 (by decide) rfl (c_Chart_groupLike X.inj  h) rfl rfl hrest hdd (fun v I' J' hv => by obtain ⟨r, rfl, hq⟩ := hv; exact kk r I' J' hq)
theorem dX0_splitGroups_0 : decode cX0_splitGroups 0 = .ok (.aload_n 0, 1) := by decide +kernel
theorem dX0_splitGroups_1 : decode cX0_splitGroups 1 = .ok (.iconst 0, 1) := by decide +kernel
theorem dX0_splitGroups_2 : decode cX0_splitGroups 2 = .ok (.putfield 80, 3) := by decide +kernel
theorem dX0_splitGroups_5 : decode cX0_splitGroups 5 = .ok (.iconst 0, 1) := by decide +kernel
theorem dX0_splitGroups_6 : decode cX0_splitGroups 6 = .ok (.istore_n 1, 1) := by decide +kernel
theorem dX0_splitGroups_7 : decode cX0_splitGroups 7 = .ok (.iload_n 1, 1) := by decide +kernel
theorem dX0_splitGroups_8 : decode cX0_splitGroups 8 = .ok (.aload_n 0, 1) := by decide +kernel
theorem dX0_splitGroups_9 : decode cX0_splitGroups 9 = .ok (.getfield 40, 3) := by decide +kernel
theorem dX0_splitGroups_12 : decode cX0_splitGroups 12 = .ok (.if_icmp .ge 63, 3) := by decide +kernel
theorem dX0_splitGroups_15 : decode cX0_splitGroups 15 = .ok (.aload_n 0, 1) := by decide +kernel
theorem dX0_splitGroups_16 : decode cX0_splitGroups 16 = .ok (.iload_n 1, 1) := by decide +kernel
theorem dX0_splitGroups_17 : decode cX0_splitGroups 17 = .ok (.invokevirtual 86, 3) := by decide +kernel
theorem dX0_splitGroups_20 : decode cX0_splitGroups 20 = .ok (.istore_n 2, 1) := by decide +kernel
theorem dX0_splitGroups_21 : decode cX0_splitGroups 21 = .ok (.iload_n 2, 1) := by decide +kernel
theorem dX0_splitGroups_22 : decode cX0_splitGroups 22 = .ok (.bipush 14, 2) := by decide +kernel
theorem dX0_splitGroups_24 : decode cX0_splitGroups 24 = .ok (.if_icmp .ne 10, 3) := by decide +kernel
theorem dX0_splitGroups_27 : decode cX0_splitGroups 27 = .ok (.aload_n 0, 1) := by decide +kernel
theorem dX0_splitGroups_28 : decode cX0_splitGroups 28 = .ok (.bipush 15, 2) := by decide +kernel
theorem dX0_splitGroups_30 : decode cX0_splitGroups 30 = .ok (.putfield 80, 3) := by decide +kernel
theorem dX0_splitGroups_33 : decode cX0_splitGroups 33 = .ok (.return_, 1) := by decide +kernel
theorem dX0_splitGroups_34 : decode cX0_splitGroups 34 = .ok (.iload_n 2, 1) := by decide +kernel
theorem dX0_splitGroups_35 : decode cX0_splitGroups 35 = .ok (.aload_n 0, 1) := by decide +kernel
theorem dX0_splitGroups_36 : decode cX0_splitGroups 36 = .ok (.getfield 80, 3) := by decide +kernel
theorem dX0_splitGroups_39 : decode cX0_splitGroups 39 = .ok (.if_icmp .ne 23, 3) := by decide +kernel
theorem dX0_splitGroups_42 : decode cX0_splitGroups 42 = .ok (.aload_n 0, 1) := by decide +kernel
theorem dX0_splitGroups_43 : decode cX0_splitGroups 43 = .ok (.getfield 37, 3) := by decide +kernel
theorem dX0_splitGroups_46 : decode cX0_splitGroups 46 = .ok (.aload_n 0, 1) := by decide +kernel
theorem dX0_splitGroups_47 : decode cX0_splitGroups 47 = .ok (.getfield 80, 3) := by decide +kernel
theorem dX0_splitGroups_50 : decode cX0_splitGroups 50 = .ok (.iload_n 1, 1) := by decide +kernel
theorem dX0_splitGroups_51 : decode cX0_splitGroups 51 = .ok (.iastore, 1) := by decide +kernel
theorem dX0_splitGroups_52 : decode cX0_splitGroups 52 = .ok (.aload_n 0, 1) := by decide +kernel
theorem dX0_splitGroups_53 : decode cX0_splitGroups 53 = .ok (.dup, 1) := by decide +kernel
theorem dX0_splitGroups_54 : decode cX0_splitGroups 54 = .ok (.getfield 80, 3) := by decide +kernel
theorem dX0_splitGroups_57 : decode cX0_splitGroups 57 = .ok (.iconst 1, 1) := by decide +kernel
theorem dX0_splitGroups_58 : decode cX0_splitGroups 58 = .ok (.iadd, 1) := by decide +kernel
theorem dX0_splitGroups_59 : decode cX0_splitGroups 59 = .ok (.putfield 80, 3) := by decide +kernel
theorem dX0_splitGroups_62 : decode cX0_splitGroups 62 = .ok (.aload_n 0, 1) := by decide +kernel
theorem dX0_splitGroups_63 : decode cX0_splitGroups 63 = .ok (.getfield 34, 3) := by decide +kernel
theorem dX0_splitGroups_66 : decode cX0_splitGroups 66 = .ok (.iload_n 1, 1) := by decide +kernel
theorem dX0_splitGroups_67 : decode cX0_splitGroups 67 = .ok (.iload_n 2, 1) := by decide +kernel
theorem dX0_splitGroups_68 : decode cX0_splitGroups 68 = .ok (.iastore, 1) := by decide +kernel
theorem dX0_splitGroups_69 : decode cX0_splitGroups 69 = .ok (.iinc 1 1, 3) := by decide +kernel
theorem dX0_splitGroups_72 : decode cX0_splitGroups 72 = .ok (.goto (-65), 3) := by decide +kernel
theorem dX0_splitGroups_75 : decode cX0_splitGroups 75 = .ok (.aload_n 0, 1) := by decide +kernel
theorem dX0_splitGroups_76 : decode cX0_splitGroups 76 = .ok (.getfield 34, 3) := by decide +kernel
theorem dX0_splitGroups_79 : decode cX0_splitGroups 79 = .ok (.iconst 0, 1) := by decide +kernel
theorem dX0_splitGroups_80 : decode cX0_splitGroups 80 = .ok (.aload_n 0, 1) := by decide +kernel
theorem dX0_splitGroups_81 : decode cX0_splitGroups 81 = .ok (.getfield 31, 3) := by decide +kernel
theorem dX0_splitGroups_84 : decode cX0_splitGroups 84 = .ok (.iconst 0, 1) := by decide +kernel
theorem dX0_splitGroups_85 : decode cX0_splitGroups 85 = .ok (.aload_n 0, 1) := by decide +kernel
theorem dX0_splitGroups_86 : decode cX0_splitGroups 86 = .ok (.getfield 40, 3) := by decide +kernel
theorem dX0_splitGroups_89 : decode cX0_splitGroups 89 = .ok (.invokestatic 89, 3) := by decide +kernel
theorem dX0_splitGroups_92 : decode cX0_splitGroups 92 = .ok (.return_, 1) := by decide +kernel
def f_Chart_splitGroups_b62 (x1 : Int32) (x2 : Int32) (kh : Int32 → MI → MJ → Prop) (I : MI) (J : MJ) : Prop :=
  vp_in x1 225 ∧ ∀ I68 : MI, I68 = sI I 10 (upd (I 10) x1.toNatClampNeg x2) → ∀ t69 : Int32, t69 = x1 + 1 → kh t69 I68 J
def f_Chart_splitGroups_L7 (k27 : MI → MJ → Prop) (k75 : MI → MJ → Prop) : Nat → Int32 → MI → MJ → Prop
  | 0, _, _, _ => False
  | nf7 + 1, x1, I, J =>
  (if (I 2 0) ≤ x1 then k75 I J else f_Chart_groupLike x1 I J (fun r17 I17 J17 => (if r17 = 14 then k27 I17 J17 else (if r17 = (I17 2 2) then vp_in (I17 2 2) 14 ∧ ∀ I51 : MI, I51 = sI I17 11 (upd (I17 11) (I17 2 2).toNatClampNeg x1) → ∀ I59 : MI, I59 = sI I51 2 (upd (I51 2) 2 ((I51 2 2) + 1)) → f_Chart_splitGroups_b62 x1 r17 (f_Chart_splitGroups_L7 k27 k75 nf7) I59 J17 else f_Chart_splitGroups_b62 x1 r17 (f_Chart_splitGroups_L7 k27 k75 nf7) I17 J17))))
def f_Chart_splitGroups (I : MI) (J : MJ) (Q : MI → MJ → Prop) : Prop :=
  ∀ I2 : MI, I2 = sI I 2 (upd (I 2) 2 0) → ∃ n, f_Chart_splitGroups_L7 (fun (I : MI) (J : MJ) => ∀ I30 : MI, I30 = sI I 2 (upd (I 2) 2 15) → Q I30 J) (fun (I : MI) (J : MJ) => (¬ (0 : Int32) < 0 ∧ ¬ (0 : Int32) < 0 ∧ ¬ (I 2 0) < 0 ∧ (0 : Int32).toNatClampNeg + (I 2 0).toNatClampNeg ≤ 225 ∧ (0 : Int32).toNatClampNeg + (I 2 0).toNatClampNeg ≤ 225) ∧ ∀ I89 : MI, I89 = sI I 9 (va_cpy (I 10) (I 9) (0 : Int32).toNatClampNeg (0 : Int32).toNatClampNeg (I 2 0).toNatClampNeg) → Q I89 J) n 0 I2 J
set_option maxRecDepth 100000 in
set_option maxHeartbeats 4000000 in
theorem w_Chart_splitGroups_b62 {Γ : Ctx} {Q : MI → MJ → Prop} {x1 : Int32} {x2 : Int32} {kh : Int32 → MI → MJ → Prop} (X : Cx Γ cX0_splitGroups 3 RX0 2) (Y : Rt Γ (Pv Q) (Option.none : Option Jvm.ClassFile.FieldType))  (hkh : ∀ (x1 : Int32) (I : MI) (J : MJ), kh x1 I J → Wp Γ 3 7 [(0, .ref (ad Γ 2)), (1, .int x1)] [] I J) {I : MI} {J : MJ} (h : f_Chart_splitGroups_b62 x1 x2 kh I J) : Wp Γ 3 62 [(0, .ref (ad Γ 2)), (1, .int x1), (2, .int x2)] [] I J := by
  unfold f_Chart_splitGroups_b62 at h
  refine wp_aload_n X dX0_splitGroups_62 0 rfl ?_
  refine gf_X0_34 (o' := 10) X sh_2 rfl dX0_splitGroups_63 ?_
  refine wp_iload_n X dX0_splitGroups_66 1 rfl ?_
  refine wp_iload_n X dX0_splitGroups_67 2 rfl ?_
  obtain ⟨hb68, h⟩ := h
  refine wp_iast X sh_10 hb68 dX0_splitGroups_68 ?_
  refine wp_memI (fun I68 eI68 => ?_)
  have h := h I68 eI68
  obtain ⟨t69, et69⟩ : ∃ y : Int32, y = x1 + 1 := ⟨_, rfl⟩
  have h := h t69 et69
  refine wp_iinc (L' := [(1, .int t69), (0, .ref (ad Γ 2)), (2, .int x2)]) X dX0_splitGroups_69 1 rfl (ii_1 et69) (by decide) rfl ?_
  refine wp_goto (tgt := 7) X dX0_splitGroups_72 (by decide) ?_
  refine wp_sub X [1, 0] rfl ?_
  exact hkh _ _ _ h

set_option maxRecDepth 100000 in
set_option maxHeartbeats 4000000 in
theorem w_Chart_splitGroups_L7 {Γ : Ctx} {Q : MI → MJ → Prop}  {k27 : MI → MJ → Prop} {k75 : MI → MJ → Prop} (X : Cx Γ cX0_splitGroups 3 RX0 2) (Y : Rt Γ (Pv Q) (Option.none : Option Jvm.ClassFile.FieldType))  (hk27 : ∀ (I : MI) (J : MJ), k27 I J → Wp Γ 3 27 [(0, .ref (ad Γ 2))] [] I J) (hk75 : ∀ (I : MI) (J : MJ), k75 I J → Wp Γ 3 75 [(0, .ref (ad Γ 2))] [] I J) : ∀ (n : Nat) (x1 : Int32) (I : MI) (J : MJ), f_Chart_splitGroups_L7 k27 k75 n x1 I J → Wp Γ 3 7 [(0, .ref (ad Γ 2)), (1, .int x1)] [] I J := by
  intro n
  induction n with
  | zero => intro x1 I J h; exact absurd h (by simp [f_Chart_splitGroups_L7])
  | succ n ih =>
  intro x1 I J h
  unfold f_Chart_splitGroups_L7 at h
  refine wp_iload_n X dX0_splitGroups_7 1 rfl ?_
  refine wp_aload_n X dX0_splitGroups_8 0 rfl ?_
  refine gf_X0_40 X sh_2 dX0_splitGroups_9 ?_
  refine wp_icmp_ge (tgt := 75) X dX0_splitGroups_12 (by decide) (fun hc => ?_) (fun hc => ?_)
  · have h := ite_t h hc
    refine wp_sub X [0] rfl ?_
    exact hk75 _ _ h
  · have h := ite_f h hc
    refine wp_aload_n X dX0_splitGroups_15 0 rfl ?_
    refine wp_iload_n X dX0_splitGroups_16 1 rfl ?_
    refine cv_Chart_groupLike X dX0_splitGroups_17 ml_X0_86  h (Nat.le_of_ble_eq_true rfl) (by decide) (fun r17 I17 J17 h => ?_)
    refine wp_istore_n (L' := [(2, .int r17), (0, .ref (ad Γ 2)), (1, .int x1)]) X dX0_splitGroups_20 rfl (by decide) rfl ?_
    refine wp_iload_n X dX0_splitGroups_21 0 rfl ?_
    refine wp_bipush X dX0_splitGroups_22 bi_14 ?_
    refine wp_icmp_ne (tgt := 34) X dX0_splitGroups_24 (by decide) (fun hc => ?_) (fun hc => ?_)
    · have h := ite_f h hc
      refine wp_iload_n X dX0_splitGroups_34 0 rfl ?_
      refine wp_aload_n X dX0_splitGroups_35 1 rfl ?_
      refine gf_X0_80 X sh_2 dX0_splitGroups_36 ?_
      refine wp_icmp_ne (tgt := 62) X dX0_splitGroups_39 (by decide) (fun hc => ?_) (fun hc => ?_)
      · have h := ite_f h hc
        refine wp_sub X [1, 2, 0] rfl ?_
        exact w_Chart_splitGroups_b62 X Y ih h
      · have h := ite_t h hc
        refine wp_aload_n X dX0_splitGroups_42 1 rfl ?_
        refine gf_X0_37 (o' := 11) X sh_2 rfl dX0_splitGroups_43 ?_
        refine wp_aload_n X dX0_splitGroups_46 1 rfl ?_
        refine gf_X0_80 X sh_2 dX0_splitGroups_47 ?_
        refine wp_iload_n X dX0_splitGroups_50 2 rfl ?_
        obtain ⟨hb51, h⟩ := h
        refine wp_iast X sh_11 hb51 dX0_splitGroups_51 ?_
        refine wp_memI (fun I51 eI51 => ?_)
        have h := h I51 eI51
        refine wp_aload_n X dX0_splitGroups_52 1 rfl ?_
        refine wp_dup X dX0_splitGroups_53 rfl ?_
        refine gf_X0_80 X sh_2 dX0_splitGroups_54 ?_
        refine wp_iconst X dX0_splitGroups_57 ic_1 ?_
        refine wp_iadd X dX0_splitGroups_58 ?_
        refine pf_X0_80 X sh_2 dX0_splitGroups_59 (fun I59 eI59 => ?_)
        have h := h I59 eI59
        refine wp_sub X [1, 2, 0] rfl ?_
        exact w_Chart_splitGroups_b62 X Y ih h
    · have h := ite_t h hc
      refine wp_sub X [1] rfl ?_
      exact hk27 _ _ h

set_option maxRecDepth 100000 in
set_option maxHeartbeats 4000000 in
theorem w_Chart_splitGroups_b0 {Γ : Ctx} {Q : MI → MJ → Prop}   (X : Cx Γ cX0_splitGroups 3 RX0 2) (Y : Rt Γ (Pv Q) (Option.none : Option Jvm.ClassFile.FieldType))   {I : MI} {J : MJ} (h : f_Chart_splitGroups  I J Q) : Wp Γ 3 0 [(0, .ref (ad Γ 2))] [] I J := by
  unfold f_Chart_splitGroups at h
  refine wp_aload_n X dX0_splitGroups_0 0 rfl ?_
  refine wp_iconst X dX0_splitGroups_1 ic_0 ?_
  refine pf_X0_80 X sh_2 dX0_splitGroups_2 (fun I2 eI2 => ?_)
  have h := h I2 eI2
  refine wp_iconst X dX0_splitGroups_5 ic_0 ?_
  refine wp_istore_n (L' := [(1, .int 0), (0, .ref (ad Γ 2))]) X dX0_splitGroups_6 rfl (by decide) rfl ?_
  obtain ⟨n, h⟩ := h
  refine wp_sub X [1, 0] rfl ?_
  refine w_Chart_splitGroups_L7 X Y  ?_ ?_ n _ _ _ h
  · intro I J h
    refine wp_aload_n X dX0_splitGroups_27 0 rfl ?_
    refine wp_bipush X dX0_splitGroups_28 bi_15 ?_
    refine pf_X0_80 X sh_2 dX0_splitGroups_30 (fun I30 eI30 => ?_)
    have h := h I30 eI30
    exact wp_vret X Y dX0_splitGroups_33 ⟨rfl, h⟩
  · intro I J h
    refine wp_aload_n X dX0_splitGroups_75 0 rfl ?_
    refine gf_X0_34 (o' := 10) X sh_2 rfl dX0_splitGroups_76 ?_
    refine wp_iconst X dX0_splitGroups_79 ic_0 ?_
    refine wp_aload_n X dX0_splitGroups_80 0 rfl ?_
    refine gf_X0_31 (o' := 9) X sh_2 rfl dX0_splitGroups_81 ?_
    refine wp_iconst X dX0_splitGroups_84 ic_0 ?_
    refine wp_aload_n X dX0_splitGroups_85 0 rfl ?_
    refine gf_X0_40 X sh_2 dX0_splitGroups_86 ?_
    obtain ⟨hcp, h⟩ := h
    refine wp_copy X dX0_splitGroups_89 ml_X0_89 mw_copy (by decide) sh_10 sh_9 hcp ?_
    refine wp_memI (fun I89 eI89 => ?_)
    have h := h I89 eI89
    exact wp_vret X Y dX0_splitGroups_92 ⟨rfl, h⟩

theorem c_Chart_splitGroups {l : Launch} {g : GE} (hg : Inj g) {I : MI} {J : MJ} {Q : MI → MJ → Prop}   (h : f_Chart_splitGroups  I J Q) : Cm l g yX0_splitGroups cX0_splitGroups 3 (Option.none : Option Jvm.ClassFile.FieldType) 2 [.ref (g.1 2)] I J (Pv Q) := by
  refine Cm.of (As := fun ad => [.ref (ad 2)]) hg pn_X0 (Nat.le_of_ble_eq_true rfl) ?_
  exact (fun Γ _ _ X Y => w_Chart_splitGroups_b0 X Y  h)
theorem cv_Chart_splitGroups {Γ : Ctx} {cc : ByteArray} {nL d pc index : Nat} {own : String} {L : List (Nat × Value)} {rest : List Value} {I : MI} {J : MJ} {Q : MI → MJ → Prop}  (X : Cx Γ cc nL own d) (hd : decode cc pc = .ok (.invokevirtual index, 3)) (hlink : Cond.methodLink own index yX0_splitGroups ∈ TT)  (h : f_Chart_splitGroups  I J Q) (hrest : (rest.map fun v => v.category).sum ≤ 8) (hdd : 2 + 1 ≤ d) (kk : ∀ (I' : MI) (J' : MJ), Q I' J' → Wp Γ nL (pc + 3) L rest I' J') : Wp Γ nL pc L (.ref (ad Γ 2) :: rest) I J :=
  wp_callV (As := []) (rest := rest) (T := TX0) (N := 12) X hd hlink mv_X0_splitGroups sh_2 (by decide) rfl (c_Chart_splitGroups X.inj  h) rfl rfl hrest hdd (fun v I' J' hv => by obtain ⟨rfl, hq⟩ := hv; exact kk I' J' hq)
theorem dX0_groupNodes_0 : decode cX0_groupNodes 0 = .ok (.iconst 0, 1) := by decide +kernel
theorem dX0_groupNodes_1 : decode cX0_groupNodes 1 = .ok (.istore_n 1, 1) := by decide +kernel
theorem dX0_groupNodes_2 : decode cX0_groupNodes 2 = .ok (.iload_n 1, 1) := by decide +kernel
theorem dX0_groupNodes_3 : decode cX0_groupNodes 3 = .ok (.aload_n 0, 1) := by decide +kernel
theorem dX0_groupNodes_4 : decode cX0_groupNodes 4 = .ok (.getfield 40, 3) := by decide +kernel
theorem dX0_groupNodes_7 : decode cX0_groupNodes 7 = .ok (.if_icmp .ge 16, 3) := by decide +kernel
theorem dX0_groupNodes_10 : decode cX0_groupNodes 10 = .ok (.aload_n 0, 1) := by decide +kernel
theorem dX0_groupNodes_11 : decode cX0_groupNodes 11 = .ok (.getfield 31, 3) := by decide +kernel
theorem dX0_groupNodes_14 : decode cX0_groupNodes 14 = .ok (.iload_n 1, 1) := by decide +kernel
theorem dX0_groupNodes_15 : decode cX0_groupNodes 15 = .ok (.iconst 0, 1) := by decide +kernel
theorem dX0_groupNodes_16 : decode cX0_groupNodes 16 = .ok (.iastore, 1) := by decide +kernel
theorem dX0_groupNodes_17 : decode cX0_groupNodes 17 = .ok (.iinc 1 1, 3) := by decide +kernel
theorem dX0_groupNodes_20 : decode cX0_groupNodes 20 = .ok (.goto (-18), 3) := by decide +kernel
theorem dX0_groupNodes_23 : decode cX0_groupNodes 23 = .ok (.aload_n 0, 1) := by decide +kernel
theorem dX0_groupNodes_24 : decode cX0_groupNodes 24 = .ok (.iconst 0, 1) := by decide +kernel
theorem dX0_groupNodes_25 : decode cX0_groupNodes 25 = .ok (.putfield 80, 3) := by decide +kernel
theorem dX0_groupNodes_28 : decode cX0_groupNodes 28 = .ok (.iconst 0, 1) := by decide +kernel
theorem dX0_groupNodes_29 : decode cX0_groupNodes 29 = .ok (.istore_n 1, 1) := by decide +kernel
theorem dX0_groupNodes_30 : decode cX0_groupNodes 30 = .ok (.iload_n 1, 1) := by decide +kernel
theorem dX0_groupNodes_31 : decode cX0_groupNodes 31 = .ok (.bipush 14, 2) := by decide +kernel
theorem dX0_groupNodes_33 : decode cX0_groupNodes 33 = .ok (.if_icmp .gt 40, 3) := by decide +kernel
theorem dX0_groupNodes_36 : decode cX0_groupNodes 36 = .ok (.aload_n 0, 1) := by decide +kernel
theorem dX0_groupNodes_37 : decode cX0_groupNodes 37 = .ok (.getfield 80, 3) := by decide +kernel
theorem dX0_groupNodes_40 : decode cX0_groupNodes 40 = .ok (.istore_n 2, 1) := by decide +kernel
theorem dX0_groupNodes_41 : decode cX0_groupNodes 41 = .ok (.aload_n 0, 1) := by decide +kernel
theorem dX0_groupNodes_42 : decode cX0_groupNodes 42 = .ok (.invokevirtual 83, 3) := by decide +kernel
theorem dX0_groupNodes_45 : decode cX0_groupNodes 45 = .ok (.aload_n 0, 1) := by decide +kernel
theorem dX0_groupNodes_46 : decode cX0_groupNodes 46 = .ok (.getfield 80, 3) := by decide +kernel
theorem dX0_groupNodes_49 : decode cX0_groupNodes 49 = .ok (.iload_n 2, 1) := by decide +kernel
theorem dX0_groupNodes_50 : decode cX0_groupNodes 50 = .ok (.if_icmp .eq 12, 3) := by decide +kernel
theorem dX0_groupNodes_53 : decode cX0_groupNodes 53 = .ok (.aload_n 0, 1) := by decide +kernel
theorem dX0_groupNodes_54 : decode cX0_groupNodes 54 = .ok (.getfield 80, 3) := by decide +kernel
theorem dX0_groupNodes_57 : decode cX0_groupNodes 57 = .ok (.bipush 14, 2) := by decide +kernel
theorem dX0_groupNodes_59 : decode cX0_groupNodes 59 = .ok (.if_icmp .le 8, 3) := by decide +kernel
theorem dX0_groupNodes_62 : decode cX0_groupNodes 62 = .ok (.aload_n 0, 1) := by decide +kernel
theorem dX0_groupNodes_63 : decode cX0_groupNodes 63 = .ok (.getfield 80, 3) := by decide +kernel
theorem dX0_groupNodes_66 : decode cX0_groupNodes 66 = .ok (.ireturn, 1) := by decide +kernel
theorem dX0_groupNodes_67 : decode cX0_groupNodes 67 = .ok (.iinc 1 1, 3) := by decide +kernel
theorem dX0_groupNodes_70 : decode cX0_groupNodes 70 = .ok (.goto (-40), 3) := by decide +kernel
theorem dX0_groupNodes_73 : decode cX0_groupNodes 73 = .ok (.aload_n 0, 1) := by decide +kernel
theorem dX0_groupNodes_74 : decode cX0_groupNodes 74 = .ok (.getfield 80, 3) := by decide +kernel
theorem dX0_groupNodes_77 : decode cX0_groupNodes 77 = .ok (.ireturn, 1) := by decide +kernel
def f_Chart_groupNodes_L30 (k62 : MI → MJ → Prop) (k73 : MI → MJ → Prop) : Nat → Int32 → MI → MJ → Prop
  | 0, _, _, _ => False
  | nf30 + 1, x1, I, J =>
  (if 14 < x1 then k73 I J else ∀ t40 : Int32, t40 = I 2 2 → f_Chart_splitGroups I J (fun I42 J42 => (if (I42 2 2) = t40 then k62 I42 J42 else (if (I42 2 2) ≤ 14 then ∀ t67 : Int32, t67 = x1 + 1 → f_Chart_groupNodes_L30 k62 k73 nf30 t67 I42 J42 else k62 I42 J42))))
def f_Chart_groupNodes_L2 (k23 : MI → MJ → Prop) : Nat → Int32 → MI → MJ → Prop
  | 0, _, _, _ => False
  | nf2 + 1, x1, I, J =>
  (if (I 2 0) ≤ x1 then k23 I J else vp_in x1 225 ∧ ∀ I16 : MI, I16 = sI I 9 (upd (I 9) x1.toNatClampNeg 0) → ∀ t17 : Int32, t17 = x1 + 1 → f_Chart_groupNodes_L2 k23 nf2 t17 I16 J)
def f_Chart_groupNodes (I : MI) (J : MJ) (Q : Int32 → MI → MJ → Prop) : Prop :=
  ∃ n, f_Chart_groupNodes_L2 (fun (I : MI) (J : MJ) => ∀ I25 : MI, I25 = sI I 2 (upd (I 2) 2 0) → ∃ n, f_Chart_groupNodes_L30 (fun (I : MI) (J : MJ) => Q (I 2 2) I J) (fun (I : MI) (J : MJ) => Q (I 2 2) I J) n 0 I25 J) n 0 I J
set_option maxRecDepth 100000 in
set_option maxHeartbeats 4000000 in
theorem w_Chart_groupNodes_L30 {Γ : Ctx} {Q : Int32 → MI → MJ → Prop}  {k62 : MI → MJ → Prop} {k73 : MI → MJ → Prop} (X : Cx Γ cX0_groupNodes 3 RX0 3) (Y : Rt Γ (Pi Q) (Option.some Jvm.ClassFile.FieldType.int))  (hk62 : ∀ (I : MI) (J : MJ), k62 I J → Wp Γ 3 62 [(0, .ref (ad Γ 2))] [] I J) (hk73 : ∀ (I : MI) (J : MJ), k73 I J → Wp Γ 3 73 [(0, .ref (ad Γ 2))] [] I J) : ∀ (n : Nat) (x1 : Int32) (I : MI) (J : MJ), f_Chart_groupNodes_L30 k62 k73 n x1 I J → Wp Γ 3 30 [(0, .ref (ad Γ 2)), (1, .int x1)] [] I J := by
  intro n
  induction n with
  | zero => intro x1 I J h; exact absurd h (by simp [f_Chart_groupNodes_L30])
  | succ n ih =>
  intro x1 I J h
  unfold f_Chart_groupNodes_L30 at h
  refine wp_iload_n X dX0_groupNodes_30 1 rfl ?_
  refine wp_bipush X dX0_groupNodes_31 bi_14 ?_
  refine wp_icmp_gt (tgt := 73) X dX0_groupNodes_33 (by decide) (fun hc => ?_) (fun hc => ?_)
  · have h := ite_t h hc
    refine wp_sub X [0] rfl ?_
    exact hk73 _ _ h
  · have h := ite_f h hc
    refine wp_aload_n X dX0_groupNodes_36 0 rfl ?_
    refine gf_X0_80 X sh_2 dX0_groupNodes_37 ?_
    refine wp_topi (fun t40 et40 => ?_)
    have h := h t40 et40
    refine wp_istore_n (L' := [(2, .int t40), (0, .ref (ad Γ 2)), (1, .int x1)]) X dX0_groupNodes_40 rfl (by decide) rfl ?_
    refine wp_aload_n X dX0_groupNodes_41 1 rfl ?_
    refine cv_Chart_splitGroups X dX0_groupNodes_42 ml_X0_83  h (Nat.le_of_ble_eq_true rfl) (by decide) (fun I42 J42 h => ?_)
    refine wp_aload_n X dX0_groupNodes_45 1 rfl ?_
    refine gf_X0_80 X sh_2 dX0_groupNodes_46 ?_
    refine wp_iload_n X dX0_groupNodes_49 0 rfl ?_
    refine wp_icmp_eq (tgt := 62) X dX0_groupNodes_50 (by decide) (fun hc => ?_) (fun hc => ?_)
    · have h := ite_t h hc
      refine wp_sub X [1] rfl ?_
      exact hk62 _ _ h
    · have h := ite_f h hc
      refine wp_aload_n X dX0_groupNodes_53 1 rfl ?_
      refine gf_X0_80 X sh_2 dX0_groupNodes_54 ?_
      refine wp_bipush X dX0_groupNodes_57 bi_14 ?_
      refine wp_icmp_le (tgt := 67) X dX0_groupNodes_59 (by decide) (fun hc => ?_) (fun hc => ?_)
      · have h := ite_t h hc
        obtain ⟨t67, et67⟩ : ∃ y : Int32, y = x1 + 1 := ⟨_, rfl⟩
        have h := h t67 et67
        refine wp_iinc (L' := [(1, .int t67), (2, .int t40), (0, .ref (ad Γ 2))]) X dX0_groupNodes_67 2 rfl (ii_1 et67) (by decide) rfl ?_
        refine wp_goto (tgt := 30) X dX0_groupNodes_70 (by decide) ?_
        refine wp_sub X [2, 0] rfl ?_
        exact ih _ _ _ h
      · have h := ite_f h hc
        refine wp_sub X [1] rfl ?_
        exact hk62 _ _ h

set_option maxRecDepth 100000 in
set_option maxHeartbeats 4000000 in
theorem w_Chart_groupNodes_L2 {Γ : Ctx} {Q : Int32 → MI → MJ → Prop}  {k23 : MI → MJ → Prop} (X : Cx Γ cX0_groupNodes 3 RX0 3) (Y : Rt Γ (Pi Q) (Option.some Jvm.ClassFile.FieldType.int))  (hk23 : ∀ (I : MI) (J : MJ), k23 I J → Wp Γ 3 23 [(0, .ref (ad Γ 2))] [] I J) : ∀ (n : Nat) (x1 : Int32) (I : MI) (J : MJ), f_Chart_groupNodes_L2 k23 n x1 I J → Wp Γ 3 2 [(0, .ref (ad Γ 2)), (1, .int x1)] [] I J := by
  intro n
  induction n with
  | zero => intro x1 I J h; exact absurd h (by simp [f_Chart_groupNodes_L2])
  | succ n ih =>
  intro x1 I J h
  unfold f_Chart_groupNodes_L2 at h
  refine wp_iload_n X dX0_groupNodes_2 1 rfl ?_
  refine wp_aload_n X dX0_groupNodes_3 0 rfl ?_
  refine gf_X0_40 X sh_2 dX0_groupNodes_4 ?_
  refine wp_icmp_ge (tgt := 23) X dX0_groupNodes_7 (by decide) (fun hc => ?_) (fun hc => ?_)
  · have h := ite_t h hc
    refine wp_sub X [0] rfl ?_
    exact hk23 _ _ h
  · have h := ite_f h hc
    refine wp_aload_n X dX0_groupNodes_10 0 rfl ?_
    refine gf_X0_31 (o' := 9) X sh_2 rfl dX0_groupNodes_11 ?_
    refine wp_iload_n X dX0_groupNodes_14 1 rfl ?_
    refine wp_iconst X dX0_groupNodes_15 ic_0 ?_
    obtain ⟨hb16, h⟩ := h
    refine wp_iast X sh_9 hb16 dX0_groupNodes_16 ?_
    refine wp_memI (fun I16 eI16 => ?_)
    have h := h I16 eI16
    obtain ⟨t17, et17⟩ : ∃ y : Int32, y = x1 + 1 := ⟨_, rfl⟩
    have h := h t17 et17
    refine wp_iinc (L' := [(1, .int t17), (0, .ref (ad Γ 2))]) X dX0_groupNodes_17 1 rfl (ii_1 et17) (by decide) rfl ?_
    refine wp_goto (tgt := 2) X dX0_groupNodes_20 (by decide) ?_
    refine wp_sub X [1, 0] rfl ?_
    exact ih _ _ _ h

set_option maxRecDepth 100000 in
set_option maxHeartbeats 4000000 in
theorem w_Chart_groupNodes_b0 {Γ : Ctx} {Q : Int32 → MI → MJ → Prop}   (X : Cx Γ cX0_groupNodes 3 RX0 3) (Y : Rt Γ (Pi Q) (Option.some Jvm.ClassFile.FieldType.int))   {I : MI} {J : MJ} (h : f_Chart_groupNodes  I J Q) : Wp Γ 3 0 [(0, .ref (ad Γ 2))] [] I J := by
  unfold f_Chart_groupNodes at h
  refine wp_iconst X dX0_groupNodes_0 ic_0 ?_
  refine wp_istore_n (L' := [(1, .int 0), (0, .ref (ad Γ 2))]) X dX0_groupNodes_1 rfl (by decide) rfl ?_
  obtain ⟨n, h⟩ := h
  refine wp_sub X [1, 0] rfl ?_
  refine w_Chart_groupNodes_L2 X Y  ?_ n _ _ _ h
  · intro I J h
    refine wp_aload_n X dX0_groupNodes_23 0 rfl ?_
    refine wp_iconst X dX0_groupNodes_24 ic_0 ?_
    refine pf_X0_80 X sh_2 dX0_groupNodes_25 (fun I25 eI25 => ?_)
    have h := h I25 eI25
    refine wp_iconst X dX0_groupNodes_28 ic_0 ?_
    refine wp_istore_n (L' := [(1, .int 0), (0, .ref (ad Γ 2))]) X dX0_groupNodes_29 rfl (by decide) rfl ?_
    obtain ⟨n, h⟩ := h
    refine wp_sub X [1, 0] rfl ?_
    refine w_Chart_groupNodes_L30 X Y  ?_ ?_ n _ _ _ h
    · intro I J h
      refine wp_aload_n X dX0_groupNodes_62 0 rfl ?_
      refine gf_X0_80 X sh_2 dX0_groupNodes_63 ?_
      exact wp_iret X Y dX0_groupNodes_66 ⟨_, rfl, h⟩
    · intro I J h
      refine wp_aload_n X dX0_groupNodes_73 0 rfl ?_
      refine gf_X0_80 X sh_2 dX0_groupNodes_74 ?_
      exact wp_iret X Y dX0_groupNodes_77 ⟨_, rfl, h⟩

theorem c_Chart_groupNodes {l : Launch} {g : GE} (hg : Inj g) {I : MI} {J : MJ} {Q : Int32 → MI → MJ → Prop}   (h : f_Chart_groupNodes  I J Q) : Cm l g yX0_groupNodes cX0_groupNodes 3 (Option.some Jvm.ClassFile.FieldType.int) 3 [.ref (g.1 2)] I J (Pi Q) := by
  refine Cm.of (As := fun ad => [.ref (ad 2)]) hg pn_X0 (Nat.le_of_ble_eq_true rfl) ?_
  exact (fun Γ _ _ X Y => w_Chart_groupNodes_b0 X Y  h)
theorem cv_Chart_groupNodes {Γ : Ctx} {cc : ByteArray} {nL d pc index : Nat} {own : String} {L : List (Nat × Value)} {rest : List Value} {I : MI} {J : MJ} {Q : Int32 → MI → MJ → Prop}  (X : Cx Γ cc nL own d) (hd : decode cc pc = .ok (.invokevirtual index, 3)) (hlink : Cond.methodLink own index yX0_groupNodes ∈ TT)  (h : f_Chart_groupNodes  I J Q) (hrest : (rest.map fun v => v.category).sum ≤ 8) (hdd : 3 + 1 ≤ d) (kk : ∀ (r : Int32) (I' : MI) (J' : MJ), Q r I' J' → Wp Γ nL (pc + 3) L (.int r :: rest) I' J') : Wp Γ nL pc L (.ref (ad Γ 2) :: rest) I J :=
  wp_callV (As := []) (rest := rest) (T := TX0) (N := 12) X hd hlink mv_X0_groupNodes sh_2 (by decide) rfl (c_Chart_groupNodes X.inj  h) rfl rfl hrest hdd (fun v I' J' hv => by obtain ⟨r, rfl, hq⟩ := hv; exact kk r I' J' hq)
theorem dX0_signsUsed_0 : decode cX0_signsUsed 0 = .ok (.iconst 1, 1) := by decide +kernel
theorem dX0_signsUsed_1 : decode cX0_signsUsed 1 = .ok (.istore_n 1, 1) := by decide +kernel
theorem dX0_signsUsed_2 : decode cX0_signsUsed 2 = .ok (.iconst 0, 1) := by decide +kernel
theorem dX0_signsUsed_3 : decode cX0_signsUsed 3 = .ok (.istore_n 2, 1) := by decide +kernel
theorem dX0_signsUsed_4 : decode cX0_signsUsed 4 = .ok (.iload_n 2, 1) := by decide +kernel
theorem dX0_signsUsed_5 : decode cX0_signsUsed 5 = .ok (.aload_n 0, 1) := by decide +kernel
theorem dX0_signsUsed_6 : decode cX0_signsUsed 6 = .ok (.getfield 40, 3) := by decide +kernel
theorem dX0_signsUsed_9 : decode cX0_signsUsed 9 = .ok (.if_icmp .ge 43, 3) := by decide +kernel
theorem dX0_signsUsed_12 : decode cX0_signsUsed 12 = .ok (.iload_n 1, 1) := by decide +kernel
theorem dX0_signsUsed_13 : decode cX0_signsUsed 13 = .ok (.istore_n 3, 1) := by decide +kernel
theorem dX0_signsUsed_14 : decode cX0_signsUsed 14 = .ok (.iload_n 3, 1) := by decide +kernel
theorem dX0_signsUsed_15 : decode cX0_signsUsed 15 = .ok (.aload_n 0, 1) := by decide +kernel
theorem dX0_signsUsed_16 : decode cX0_signsUsed 16 = .ok (.getfield 48, 3) := by decide +kernel
theorem dX0_signsUsed_19 : decode cX0_signsUsed 19 = .ok (.if_icmp .ge 27, 3) := by decide +kernel
theorem dX0_signsUsed_22 : decode cX0_signsUsed 22 = .ok (.aload_n 0, 1) := by decide +kernel
theorem dX0_signsUsed_23 : decode cX0_signsUsed 23 = .ok (.getfield 25, 3) := by decide +kernel
theorem dX0_signsUsed_26 : decode cX0_signsUsed 26 = .ok (.iload_n 2, 1) := by decide +kernel
theorem dX0_signsUsed_27 : decode cX0_signsUsed 27 = .ok (.iconst 4, 1) := by decide +kernel
theorem dX0_signsUsed_28 : decode cX0_signsUsed 28 = .ok (.imul, 1) := by decide +kernel
theorem dX0_signsUsed_29 : decode cX0_signsUsed 29 = .ok (.iload_n 3, 1) := by decide +kernel
theorem dX0_signsUsed_30 : decode cX0_signsUsed 30 = .ok (.iadd, 1) := by decide +kernel
theorem dX0_signsUsed_31 : decode cX0_signsUsed 31 = .ok (.iaload, 1) := by decide +kernel
theorem dX0_signsUsed_32 : decode cX0_signsUsed 32 = .ok (.iconst (-1), 1) := by decide +kernel
theorem dX0_signsUsed_33 : decode cX0_signsUsed 33 = .ok (.if_icmp .eq 7, 3) := by decide +kernel
theorem dX0_signsUsed_36 : decode cX0_signsUsed 36 = .ok (.iload_n 3, 1) := by decide +kernel
theorem dX0_signsUsed_37 : decode cX0_signsUsed 37 = .ok (.iconst 1, 1) := by decide +kernel
theorem dX0_signsUsed_38 : decode cX0_signsUsed 38 = .ok (.iadd, 1) := by decide +kernel
theorem dX0_signsUsed_39 : decode cX0_signsUsed 39 = .ok (.istore_n 1, 1) := by decide +kernel
theorem dX0_signsUsed_40 : decode cX0_signsUsed 40 = .ok (.iinc 3 1, 3) := by decide +kernel
theorem dX0_signsUsed_43 : decode cX0_signsUsed 43 = .ok (.goto (-29), 3) := by decide +kernel
theorem dX0_signsUsed_46 : decode cX0_signsUsed 46 = .ok (.iinc 2 1, 3) := by decide +kernel
theorem dX0_signsUsed_49 : decode cX0_signsUsed 49 = .ok (.goto (-45), 3) := by decide +kernel
theorem dX0_signsUsed_52 : decode cX0_signsUsed 52 = .ok (.iload_n 1, 1) := by decide +kernel
theorem dX0_signsUsed_53 : decode cX0_signsUsed 53 = .ok (.ireturn, 1) := by decide +kernel
def f_Chart_signsUsed_b40 (x1 : Int32) (x3 : Int32) (kh : Int32 → Int32 → MI → MJ → Prop) (I : MI) (J : MJ) : Prop :=
  ∀ t40 : Int32, t40 = x3 + 1 → kh x1 t40 I J
def f_Chart_signsUsed_L14 (x2 : Int32) (k46 : Int32 → MI → MJ → Prop) : Nat → Int32 → Int32 → MI → MJ → Prop
  | 0, _, _, _, _ => False
  | nf14 + 1, x1, x3, I, J =>
  (if (I 2 1) ≤ x3 then k46 x1 I J else vp_in ((x2 * 4) + x3) 900 ∧ (if (I 7 ((x2 * 4) + x3).toNatClampNeg) = (-1) then f_Chart_signsUsed_b40 x1 x3 (f_Chart_signsUsed_L14 x2 k46 nf14) I J else ∀ t39 : Int32, t39 = x3 + 1 → f_Chart_signsUsed_b40 t39 x3 (f_Chart_signsUsed_L14 x2 k46 nf14) I J))
def f_Chart_signsUsed_L4 (k52 : Int32 → MI → MJ → Prop) : Nat → Int32 → Int32 → MI → MJ → Prop
  | 0, _, _, _, _ => False
  | nf4 + 1, x1, x2, I, J =>
  (if (I 2 0) ≤ x2 then k52 x1 I J else ∃ n, f_Chart_signsUsed_L14 x2 (fun (z46_x1 : Int32) (I : MI) (J : MJ) => ∀ t46 : Int32, t46 = x2 + 1 → f_Chart_signsUsed_L4 k52 nf4 z46_x1 t46 I J) n x1 x1 I J)
def f_Chart_signsUsed (I : MI) (J : MJ) (Q : Int32 → MI → MJ → Prop) : Prop :=
  ∃ n, f_Chart_signsUsed_L4 (fun (z52_x1 : Int32) (I : MI) (J : MJ) => Q z52_x1 I J) n 1 0 I J
set_option maxRecDepth 100000 in
set_option maxHeartbeats 4000000 in
theorem w_Chart_signsUsed_b40 {Γ : Ctx} {Q : Int32 → MI → MJ → Prop} {x1 : Int32} {x2 : Int32} {x3 : Int32} {kh : Int32 → Int32 → MI → MJ → Prop} (X : Cx Γ cX0_signsUsed 4 RX0 0) (Y : Rt Γ (Pi Q) (Option.some Jvm.ClassFile.FieldType.int))  (hkh : ∀ (x1 : Int32) (x3 : Int32) (I : MI) (J : MJ), kh x1 x3 I J → Wp Γ 4 14 [(0, .ref (ad Γ 2)), (1, .int x1), (2, .int x2), (3, .int x3)] [] I J) {I : MI} {J : MJ} (h : f_Chart_signsUsed_b40 x1 x3 kh I J) : Wp Γ 4 40 [(0, .ref (ad Γ 2)), (1, .int x1), (2, .int x2), (3, .int x3)] [] I J := by
  unfold f_Chart_signsUsed_b40 at h
  obtain ⟨t40, et40⟩ : ∃ y : Int32, y = x3 + 1 := ⟨_, rfl⟩
  have h := h t40 et40
  refine wp_iinc (L' := [(3, .int t40), (0, .ref (ad Γ 2)), (1, .int x1), (2, .int x2)]) X dX0_signsUsed_40 3 rfl (ii_1 et40) (by decide) rfl ?_
  refine wp_goto (tgt := 14) X dX0_signsUsed_43 (by decide) ?_
  refine wp_sub X [1, 2, 3, 0] rfl ?_
  exact hkh _ _ _ _ h

set_option maxRecDepth 100000 in
set_option maxHeartbeats 4000000 in
theorem w_Chart_signsUsed_L14 {Γ : Ctx} {Q : Int32 → MI → MJ → Prop} {x2 : Int32} {k46 : Int32 → MI → MJ → Prop} (X : Cx Γ cX0_signsUsed 4 RX0 0) (Y : Rt Γ (Pi Q) (Option.some Jvm.ClassFile.FieldType.int))  (hk46 : ∀ (x1 : Int32) (I : MI) (J : MJ), k46 x1 I J → Wp Γ 4 46 [(0, .ref (ad Γ 2)), (1, .int x1), (2, .int x2)] [] I J) : ∀ (n : Nat) (x1 : Int32) (x3 : Int32) (I : MI) (J : MJ), f_Chart_signsUsed_L14 x2 k46 n x1 x3 I J → Wp Γ 4 14 [(0, .ref (ad Γ 2)), (1, .int x1), (2, .int x2), (3, .int x3)] [] I J := by
  intro n
  induction n with
  | zero => intro x1 x3 I J h; exact absurd h (by simp [f_Chart_signsUsed_L14])
  | succ n ih =>
  intro x1 x3 I J h
  unfold f_Chart_signsUsed_L14 at h
  refine wp_iload_n X dX0_signsUsed_14 3 rfl ?_
  refine wp_aload_n X dX0_signsUsed_15 0 rfl ?_
  refine gf_X0_48 X sh_2 dX0_signsUsed_16 ?_
  refine wp_icmp_ge (tgt := 46) X dX0_signsUsed_19 (by decide) (fun hc => ?_) (fun hc => ?_)
  · have h := ite_t h hc
    refine wp_sub X [0, 1, 2] rfl ?_
    exact hk46 _ _ _ h
  · have h := ite_f h hc
    refine wp_aload_n X dX0_signsUsed_22 0 rfl ?_
    refine gf_X0_25 (o' := 7) X sh_2 rfl dX0_signsUsed_23 ?_
    refine wp_iload_n X dX0_signsUsed_26 2 rfl ?_
    refine wp_iconst X dX0_signsUsed_27 ic_4 ?_
    refine wp_imul X dX0_signsUsed_28 ?_
    refine wp_iload_n X dX0_signsUsed_29 3 rfl ?_
    refine wp_iadd X dX0_signsUsed_30 ?_
    obtain ⟨hb31, h⟩ := h
    refine wp_iald X sh_7 hb31 dX0_signsUsed_31 ?_
    refine wp_iconst X dX0_signsUsed_32 ic_m1 ?_
    refine wp_icmp_eq (tgt := 40) X dX0_signsUsed_33 (by decide) (fun hc => ?_) (fun hc => ?_)
    · have h := ite_t h hc
      exact w_Chart_signsUsed_b40 X Y ih h
    · have h := ite_f h hc
      refine wp_iload_n X dX0_signsUsed_36 3 rfl ?_
      refine wp_iconst X dX0_signsUsed_37 ic_1 ?_
      refine wp_iadd X dX0_signsUsed_38 ?_
      refine wp_topi (fun t39 et39 => ?_)
      have h := h t39 et39
      refine wp_istore_n (L' := [(1, .int t39), (0, .ref (ad Γ 2)), (2, .int x2), (3, .int x3)]) X dX0_signsUsed_39 rfl (by decide) rfl ?_
      refine wp_sub X [1, 0, 2, 3] rfl ?_
      exact w_Chart_signsUsed_b40 X Y ih h

set_option maxRecDepth 100000 in
set_option maxHeartbeats 4000000 in
theorem w_Chart_signsUsed_L4 {Γ : Ctx} {Q : Int32 → MI → MJ → Prop}  {k52 : Int32 → MI → MJ → Prop} (X : Cx Γ cX0_signsUsed 4 RX0 0) (Y : Rt Γ (Pi Q) (Option.some Jvm.ClassFile.FieldType.int))  (hk52 : ∀ (x1 : Int32) (I : MI) (J : MJ), k52 x1 I J → Wp Γ 4 52 [(1, .int x1)] [] I J) : ∀ (n : Nat) (x1 : Int32) (x2 : Int32) (I : MI) (J : MJ), f_Chart_signsUsed_L4 k52 n x1 x2 I J → Wp Γ 4 4 [(0, .ref (ad Γ 2)), (1, .int x1), (2, .int x2)] [] I J := by
  intro n
  induction n with
  | zero => intro x1 x2 I J h; exact absurd h (by simp [f_Chart_signsUsed_L4])
  | succ n ih =>
  intro x1 x2 I J h
  unfold f_Chart_signsUsed_L4 at h
  refine wp_iload_n X dX0_signsUsed_4 2 rfl ?_
  refine wp_aload_n X dX0_signsUsed_5 0 rfl ?_
  refine gf_X0_40 X sh_2 dX0_signsUsed_6 ?_
  refine wp_icmp_ge (tgt := 52) X dX0_signsUsed_9 (by decide) (fun hc => ?_) (fun hc => ?_)
  · have h := ite_t h hc
    refine wp_sub X [1] rfl ?_
    exact hk52 _ _ _ h
  · have h := ite_f h hc
    refine wp_iload_n X dX0_signsUsed_12 1 rfl ?_
    refine wp_istore_n (L' := [(3, .int x1), (0, .ref (ad Γ 2)), (1, .int x1), (2, .int x2)]) X dX0_signsUsed_13 rfl (by decide) rfl ?_
    obtain ⟨n, h⟩ := h
    refine wp_sub X [1, 2, 3, 0] rfl ?_
    refine w_Chart_signsUsed_L14 X Y  ?_ n _ _ _ _ h
    · intro z46_x1 I J h
      obtain ⟨t46, et46⟩ : ∃ y : Int32, y = x2 + 1 := ⟨_, rfl⟩
      have h := h t46 et46
      refine wp_iinc (L' := [(2, .int t46), (0, .ref (ad Γ 2)), (1, .int z46_x1)]) X dX0_signsUsed_46 2 rfl (ii_1 et46) (by decide) rfl ?_
      refine wp_goto (tgt := 4) X dX0_signsUsed_49 (by decide) ?_
      refine wp_sub X [1, 2, 0] rfl ?_
      exact ih _ _ _ _ h

set_option maxRecDepth 100000 in
set_option maxHeartbeats 4000000 in
theorem w_Chart_signsUsed_b0 {Γ : Ctx} {Q : Int32 → MI → MJ → Prop}   (X : Cx Γ cX0_signsUsed 4 RX0 0) (Y : Rt Γ (Pi Q) (Option.some Jvm.ClassFile.FieldType.int))   {I : MI} {J : MJ} (h : f_Chart_signsUsed  I J Q) : Wp Γ 4 0 [(0, .ref (ad Γ 2))] [] I J := by
  unfold f_Chart_signsUsed at h
  refine wp_iconst X dX0_signsUsed_0 ic_1 ?_
  refine wp_istore_n (L' := [(1, .int 1), (0, .ref (ad Γ 2))]) X dX0_signsUsed_1 rfl (by decide) rfl ?_
  refine wp_iconst X dX0_signsUsed_2 ic_0 ?_
  refine wp_istore_n (L' := [(2, .int 0), (1, .int 1), (0, .ref (ad Γ 2))]) X dX0_signsUsed_3 rfl (by decide) rfl ?_
  obtain ⟨n, h⟩ := h
  refine wp_sub X [2, 1, 0] rfl ?_
  refine w_Chart_signsUsed_L4 X Y  ?_ n _ _ _ _ h
  · intro z52_x1 I J h
    refine wp_iload_n X dX0_signsUsed_52 0 rfl ?_
    exact wp_iret X Y dX0_signsUsed_53 ⟨_, rfl, h⟩

theorem c_Chart_signsUsed {l : Launch} {g : GE} (hg : Inj g) {I : MI} {J : MJ} {Q : Int32 → MI → MJ → Prop}   (h : f_Chart_signsUsed  I J Q) : Cm l g yX0_signsUsed cX0_signsUsed 4 (Option.some Jvm.ClassFile.FieldType.int) 0 [.ref (g.1 2)] I J (Pi Q) := by
  refine Cm.of (As := fun ad => [.ref (ad 2)]) hg pn_X0 (Nat.le_of_ble_eq_true rfl) ?_
  exact (fun Γ _ _ X Y => w_Chart_signsUsed_b0 X Y  h)
theorem cv_Chart_signsUsed {Γ : Ctx} {cc : ByteArray} {nL d pc index : Nat} {own : String} {L : List (Nat × Value)} {rest : List Value} {I : MI} {J : MJ} {Q : Int32 → MI → MJ → Prop}  (X : Cx Γ cc nL own d) (hd : decode cc pc = .ok (.invokevirtual index, 3)) (hlink : Cond.methodLink own index yX0_signsUsed ∈ TT)  (h : f_Chart_signsUsed  I J Q) (hrest : (rest.map fun v => v.category).sum ≤ 8) (hdd : 0 + 1 ≤ d) (kk : ∀ (r : Int32) (I' : MI) (J' : MJ), Q r I' J' → Wp Γ nL (pc + 3) L (.int r :: rest) I' J') : Wp Γ nL pc L (.ref (ad Γ 2) :: rest) I J :=
  wp_callV (As := []) (rest := rest) (T := TX0) (N := 12) X hd hlink mv_X0_signsUsed sh_2 (by decide) rfl (c_Chart_signsUsed X.inj  h) rfl rfl hrest hdd (fun v I' J' hv => by obtain ⟨r, rfl, hq⟩ := hv; exact kk r I' J' hq)
theorem dX0_groupBehind_0 : decode cX0_groupBehind 0 = .ok (.aload_n 0, 1) := by decide +kernel
theorem dX0_groupBehind_1 : decode cX0_groupBehind 1 = .ok (.getfield 25, 3) := by decide +kernel
theorem dX0_groupBehind_4 : decode cX0_groupBehind 4 = .ok (.iload_n 1, 1) := by decide +kernel
theorem dX0_groupBehind_5 : decode cX0_groupBehind 5 = .ok (.iconst 4, 1) := by decide +kernel
theorem dX0_groupBehind_6 : decode cX0_groupBehind 6 = .ok (.imul, 1) := by decide +kernel
theorem dX0_groupBehind_7 : decode cX0_groupBehind 7 = .ok (.iload_n 2, 1) := by decide +kernel
theorem dX0_groupBehind_8 : decode cX0_groupBehind 8 = .ok (.iadd, 1) := by decide +kernel
theorem dX0_groupBehind_9 : decode cX0_groupBehind 9 = .ok (.iaload, 1) := by decide +kernel
theorem dX0_groupBehind_10 : decode cX0_groupBehind 10 = .ok (.istore_n 3, 1) := by decide +kernel
theorem dX0_groupBehind_11 : decode cX0_groupBehind 11 = .ok (.iload_n 3, 1) := by decide +kernel
theorem dX0_groupBehind_12 : decode cX0_groupBehind 12 = .ok (.ifCond .ge 7, 3) := by decide +kernel
theorem dX0_groupBehind_15 : decode cX0_groupBehind 15 = .ok (.iconst (-1), 1) := by decide +kernel
theorem dX0_groupBehind_16 : decode cX0_groupBehind 16 = .ok (.goto 9, 3) := by decide +kernel
theorem dX0_groupBehind_19 : decode cX0_groupBehind 19 = .ok (.aload_n 0, 1) := by decide +kernel
theorem dX0_groupBehind_20 : decode cX0_groupBehind 20 = .ok (.getfield 31, 3) := by decide +kernel
theorem dX0_groupBehind_23 : decode cX0_groupBehind 23 = .ok (.iload_n 3, 1) := by decide +kernel
theorem dX0_groupBehind_24 : decode cX0_groupBehind 24 = .ok (.iaload, 1) := by decide +kernel
theorem dX0_groupBehind_25 : decode cX0_groupBehind 25 = .ok (.ireturn, 1) := by decide +kernel
def f_Chart_groupBehind (x1 : Int32) (x2 : Int32) (I : MI) (J : MJ) (Q : Int32 → MI → MJ → Prop) : Prop :=
  vp_in ((x1 * 4) + x2) 900 ∧ ∀ t10 : Int32, t10 = I 7 ((x1 * 4) + x2).toNatClampNeg → (if 0 ≤ t10 then vp_in t10 225 ∧ Q (I 9 t10.toNatClampNeg) I J else Q (-1) I J)
set_option maxRecDepth 100000 in
set_option maxHeartbeats 4000000 in
theorem w_Chart_groupBehind_b0 {Γ : Ctx} {Q : Int32 → MI → MJ → Prop} {x1 : Int32} {x2 : Int32}  (X : Cx Γ cX0_groupBehind 4 RX0 0) (Y : Rt Γ (Pi Q) (Option.some Jvm.ClassFile.FieldType.int))   {I : MI} {J : MJ} (h : f_Chart_groupBehind x1 x2 I J Q) : Wp Γ 4 0 [(0, .ref (ad Γ 2)), (1, .int x1), (2, .int x2)] [] I J := by
  unfold f_Chart_groupBehind at h
  refine wp_aload_n X dX0_groupBehind_0 0 rfl ?_
  refine gf_X0_25 (o' := 7) X sh_2 rfl dX0_groupBehind_1 ?_
  refine wp_iload_n X dX0_groupBehind_4 1 rfl ?_
  refine wp_iconst X dX0_groupBehind_5 ic_4 ?_
  refine wp_imul X dX0_groupBehind_6 ?_
  refine wp_iload_n X dX0_groupBehind_7 2 rfl ?_
  refine wp_iadd X dX0_groupBehind_8 ?_
  obtain ⟨hb9, h⟩ := h
  refine wp_iald X sh_7 hb9 dX0_groupBehind_9 ?_
  refine wp_topi (fun t10 et10 => ?_)
  have h := h t10 et10
  refine wp_istore_n (L' := [(3, .int t10), (0, .ref (ad Γ 2)), (1, .int x1), (2, .int x2)]) X dX0_groupBehind_10 rfl (by decide) rfl ?_
  refine wp_iload_n X dX0_groupBehind_11 0 rfl ?_
  refine wp_if_ge (tgt := 19) X dX0_groupBehind_12 (by decide) (fun hc => ?_) (fun hc => ?_)
  · have h := ite_t h hc
    refine wp_aload_n X dX0_groupBehind_19 1 rfl ?_
    refine gf_X0_31 (o' := 9) X sh_2 rfl dX0_groupBehind_20 ?_
    refine wp_iload_n X dX0_groupBehind_23 0 rfl ?_
    obtain ⟨hb24, h⟩ := h
    refine wp_iald X sh_9 hb24 dX0_groupBehind_24 ?_
    exact wp_iret X Y dX0_groupBehind_25 ⟨_, rfl, h⟩
  · have h := ite_f h hc
    refine wp_iconst X dX0_groupBehind_15 ic_m1 ?_
    refine wp_goto (tgt := 25) X dX0_groupBehind_16 (by decide) ?_
    exact wp_iret X Y dX0_groupBehind_25 ⟨_, rfl, h⟩

theorem c_Chart_groupBehind {l : Launch} {g : GE} (hg : Inj g) {I : MI} {J : MJ} {Q : Int32 → MI → MJ → Prop} {x1 : Int32} {x2 : Int32}  (h : f_Chart_groupBehind x1 x2 I J Q) : Cm l g yX0_groupBehind cX0_groupBehind 4 (Option.some Jvm.ClassFile.FieldType.int) 0 [.ref (g.1 2), .int x1, .int x2] I J (Pi Q) := by
  refine Cm.of (As := fun ad => [.ref (ad 2), .int x1, .int x2]) hg pn_X0 (Nat.le_of_ble_eq_true rfl) ?_
  exact (fun Γ _ _ X Y => w_Chart_groupBehind_b0 X Y  h)
theorem cv_Chart_groupBehind {Γ : Ctx} {cc : ByteArray} {nL d pc index : Nat} {own : String} {L : List (Nat × Value)} {rest : List Value} {I : MI} {J : MJ} {Q : Int32 → MI → MJ → Prop} {x1 : Int32} {x2 : Int32} (X : Cx Γ cc nL own d) (hd : decode cc pc = .ok (.invokevirtual index, 3)) (hlink : Cond.methodLink own index yX0_groupBehind ∈ TT)  (h : f_Chart_groupBehind x1 x2 I J Q) (hrest : (rest.map fun v => v.category).sum ≤ 8) (hdd : 0 + 1 ≤ d) (kk : ∀ (r : Int32) (I' : MI) (J' : MJ), Q r I' J' → Wp Γ nL (pc + 3) L (.int r :: rest) I' J') : Wp Γ nL pc L (.int x2 :: .int x1 :: .ref (ad Γ 2) :: rest) I J :=
  wp_callV (As := [.int x1, .int x2]) (rest := rest) (T := TX0) (N := 12) X hd hlink mv_X0_groupBehind sh_2 (by decide) rfl (c_Chart_groupBehind X.inj  h) rfl rfl hrest hdd (fun v I' J' hv => by obtain ⟨r, rfl, hq⟩ := hv; exact kk r I' J' hq)
theorem dX3_topAnswer_0 : decode cX3_topAnswer 0 = .ok (.iconst 0, 1) := by decide +kernel
theorem dX3_topAnswer_1 : decode cX3_topAnswer 1 = .ok (.istore_n 1, 1) := by decide +kernel
theorem dX3_topAnswer_2 : decode cX3_topAnswer 2 = .ok (.iconst 0, 1) := by decide +kernel
theorem dX3_topAnswer_3 : decode cX3_topAnswer 3 = .ok (.istore_n 2, 1) := by decide +kernel
theorem dX3_topAnswer_4 : decode cX3_topAnswer 4 = .ok (.iload_n 2, 1) := by decide +kernel
theorem dX3_topAnswer_5 : decode cX3_topAnswer 5 = .ok (.aload_n 0, 1) := by decide +kernel
theorem dX3_topAnswer_6 : decode cX3_topAnswer 6 = .ok (.getfield 28, 3) := by decide +kernel
theorem dX3_topAnswer_9 : decode cX3_topAnswer 9 = .ok (.if_icmp .ge 20, 3) := by decide +kernel
theorem dX3_topAnswer_12 : decode cX3_topAnswer 12 = .ok (.iload_n 1, 1) := by decide +kernel
theorem dX3_topAnswer_13 : decode cX3_topAnswer 13 = .ok (.aload_n 0, 1) := by decide +kernel
theorem dX3_topAnswer_14 : decode cX3_topAnswer 14 = .ok (.getfield 21, 3) := by decide +kernel
theorem dX3_topAnswer_17 : decode cX3_topAnswer 17 = .ok (.iload_n 2, 1) := by decide +kernel
theorem dX3_topAnswer_18 : decode cX3_topAnswer 18 = .ok (.iaload, 1) := by decide +kernel
theorem dX3_topAnswer_19 : decode cX3_topAnswer 19 = .ok (.invokestatic 66, 3) := by decide +kernel
theorem dX3_topAnswer_22 : decode cX3_topAnswer 22 = .ok (.istore_n 1, 1) := by decide +kernel
theorem dX3_topAnswer_23 : decode cX3_topAnswer 23 = .ok (.iinc 2 1, 3) := by decide +kernel
theorem dX3_topAnswer_26 : decode cX3_topAnswer 26 = .ok (.goto (-22), 3) := by decide +kernel
theorem dX3_topAnswer_29 : decode cX3_topAnswer 29 = .ok (.iload_n 1, 1) := by decide +kernel
theorem dX3_topAnswer_30 : decode cX3_topAnswer 30 = .ok (.ireturn, 1) := by decide +kernel
def f_Machine_topAnswer_L4 (x0 : Nat) (k29 : Int32 → MI → MJ → Prop) : Nat → Int32 → Int32 → MI → MJ → Prop
  | 0, _, _, _, _ => False
  | nf4 + 1, x1, x2, I, J =>
  (if (I x0 1) ≤ x2 then k29 x1 I J else vp_in x2 14 ∧ ∀ t22 : Int32, t22 = (if x1 < (I (x0 + 4) x2.toNatClampNeg) then I (x0 + 4) x2.toNatClampNeg else x1) → ∀ t23 : Int32, t23 = x2 + 1 → f_Machine_topAnswer_L4 x0 k29 nf4 t22 t23 I J)
def f_Machine_topAnswer (o : Nat) (I : MI) (J : MJ) (Q : Int32 → MI → MJ → Prop) : Prop :=
  ∃ n, f_Machine_topAnswer_L4 o (fun (z29_x1 : Int32) (I : MI) (J : MJ) => Q z29_x1 I J) n 0 0 I J
set_option maxRecDepth 100000 in
set_option maxHeartbeats 4000000 in
theorem w_Machine_topAnswer_L4 {Γ : Ctx} {Q : Int32 → MI → MJ → Prop} {x0 : Nat} {k29 : Int32 → MI → MJ → Prop} (X : Cx Γ cX3_topAnswer 3 RX3 1) (Y : Rt Γ (Pi Q) (Option.some Jvm.ClassFile.FieldType.int)) (hx0 : okM x0) (hk29 : ∀ (x1 : Int32) (I : MI) (J : MJ), k29 x1 I J → Wp Γ 3 29 [(1, .int x1)] [] I J) : ∀ (n : Nat) (x1 : Int32) (x2 : Int32) (I : MI) (J : MJ), f_Machine_topAnswer_L4 x0 k29 n x1 x2 I J → Wp Γ 3 4 [(0, .ref (ad Γ x0)), (1, .int x1), (2, .int x2)] [] I J := by
  intro n
  induction n with
  | zero => intro x1 x2 I J h; exact absurd h (by simp [f_Machine_topAnswer_L4])
  | succ n ih =>
  intro x1 x2 I J h
  unfold f_Machine_topAnswer_L4 at h
  refine wp_iload_n X dX3_topAnswer_4 2 rfl ?_
  refine wp_aload_n X dX3_topAnswer_5 0 rfl ?_
  refine gf_X3_28 X hx0.1 dX3_topAnswer_6 ?_
  refine wp_icmp_ge (tgt := 29) X dX3_topAnswer_9 (by decide) (fun hc => ?_) (fun hc => ?_)
  · have h := ite_t h hc
    refine wp_sub X [1] rfl ?_
    exact hk29 _ _ _ h
  · have h := ite_f h hc
    refine wp_iload_n X dX3_topAnswer_12 1 rfl ?_
    refine wp_aload_n X dX3_topAnswer_13 0 rfl ?_
    refine gf_X3_21 (o' := x0 + 4) X hx0.1 rfl dX3_topAnswer_14 ?_
    refine wp_iload_n X dX3_topAnswer_17 2 rfl ?_
    obtain ⟨hb18, h⟩ := h
    refine wp_iald X hx0.2.2.2.2 hb18 dX3_topAnswer_18 ?_
    refine wp_max X dX3_topAnswer_19 ml_X3_66 mw_max (by decide) (Nat.le_of_ble_eq_true rfl) ?_
    refine wp_topi (fun t22 et22 => ?_)
    have h := h t22 et22
    refine wp_istore_n (L' := [(1, .int t22), (0, .ref (ad Γ x0)), (2, .int x2)]) X dX3_topAnswer_22 rfl (by decide) rfl ?_
    obtain ⟨t23, et23⟩ : ∃ y : Int32, y = x2 + 1 := ⟨_, rfl⟩
    have h := h t23 et23
    refine wp_iinc (L' := [(2, .int t23), (1, .int t22), (0, .ref (ad Γ x0))]) X dX3_topAnswer_23 2 rfl (ii_1 et23) (by decide) rfl ?_
    refine wp_goto (tgt := 4) X dX3_topAnswer_26 (by decide) ?_
    refine wp_sub X [2, 1, 0] rfl ?_
    exact ih _ _ _ _ h

set_option maxRecDepth 100000 in
set_option maxHeartbeats 4000000 in
theorem w_Machine_topAnswer_b0 {Γ : Ctx} {Q : Int32 → MI → MJ → Prop} {o : Nat}  (X : Cx Γ cX3_topAnswer 3 RX3 1) (Y : Rt Γ (Pi Q) (Option.some Jvm.ClassFile.FieldType.int)) (ho : okM o)  {I : MI} {J : MJ} (h : f_Machine_topAnswer o I J Q) : Wp Γ 3 0 [(0, .ref (ad Γ o))] [] I J := by
  unfold f_Machine_topAnswer at h
  refine wp_iconst X dX3_topAnswer_0 ic_0 ?_
  refine wp_istore_n (L' := [(1, .int 0), (0, .ref (ad Γ o))]) X dX3_topAnswer_1 rfl (by decide) rfl ?_
  refine wp_iconst X dX3_topAnswer_2 ic_0 ?_
  refine wp_istore_n (L' := [(2, .int 0), (1, .int 0), (0, .ref (ad Γ o))]) X dX3_topAnswer_3 rfl (by decide) rfl ?_
  obtain ⟨n, h⟩ := h
  refine wp_sub X [2, 1, 0] rfl ?_
  refine w_Machine_topAnswer_L4 X Y ho ?_ n _ _ _ _ h
  · intro z29_x1 I J h
    refine wp_iload_n X dX3_topAnswer_29 0 rfl ?_
    exact wp_iret X Y dX3_topAnswer_30 ⟨_, rfl, h⟩

theorem c_Machine_topAnswer {l : Launch} {g : GE} (hg : Inj g) {I : MI} {J : MJ} {Q : Int32 → MI → MJ → Prop} {o : Nat} (ho : okM o) (h : f_Machine_topAnswer o I J Q) : Cm l g yX3_topAnswer cX3_topAnswer 3 (Option.some Jvm.ClassFile.FieldType.int) 1 [.ref (g.1 o)] I J (Pi Q) := by
  refine Cm.of (As := fun ad => [.ref (ad o)]) hg pn_X3 (Nat.le_of_ble_eq_true rfl) ?_
  exact (fun Γ _ _ X Y => w_Machine_topAnswer_b0 X Y ho h)
theorem cv_Machine_topAnswer {Γ : Ctx} {cc : ByteArray} {nL d pc index : Nat} {own : String} {L : List (Nat × Value)} {rest : List Value} {I : MI} {J : MJ} {Q : Int32 → MI → MJ → Prop} {o : Nat} (X : Cx Γ cc nL own d) (hd : decode cc pc = .ok (.invokevirtual index, 3)) (hlink : Cond.methodLink own index yX3_topAnswer ∈ TT) (ho : okM o) (h : f_Machine_topAnswer o I J Q) (hrest : (rest.map fun v => v.category).sum ≤ 8) (hdd : 1 + 1 ≤ d) (kk : ∀ (r : Int32) (I' : MI) (J' : MJ), Q r I' J' → Wp Γ nL (pc + 3) L (.int r :: rest) I' J') : Wp Γ nL pc L (.ref (ad Γ o) :: rest) I J :=
  wp_callV (As := []) (rest := rest) (T := TX3) (N := 7) X hd hlink mv_X3_topAnswer ho.1 (by decide) rfl (c_Machine_topAnswer X.inj ho h) rfl rfl hrest hdd (fun v I' J' hv => by obtain ⟨r, rfl, hq⟩ := hv; exact kk r I' J' hq)
theorem dX3_settleKind_0 : decode cX3_settleKind 0 = .ok (.iconst 0, 1) := by decide +kernel
theorem dX3_settleKind_1 : decode cX3_settleKind 1 = .ok (.istore_n 1, 1) := by decide +kernel
theorem dX3_settleKind_2 : decode cX3_settleKind 2 = .ok (.iconst 0, 1) := by decide +kernel
theorem dX3_settleKind_3 : decode cX3_settleKind 3 = .ok (.istore_n 2, 1) := by decide +kernel
theorem dX3_settleKind_4 : decode cX3_settleKind 4 = .ok (.iload_n 2, 1) := by decide +kernel
theorem dX3_settleKind_5 : decode cX3_settleKind 5 = .ok (.aload_n 0, 1) := by decide +kernel
theorem dX3_settleKind_6 : decode cX3_settleKind 6 = .ok (.getfield 28, 3) := by decide +kernel
theorem dX3_settleKind_9 : decode cX3_settleKind 9 = .ok (.if_icmp .ge 49, 3) := by decide +kernel
theorem dX3_settleKind_12 : decode cX3_settleKind 12 = .ok (.iconst 0, 1) := by decide +kernel
theorem dX3_settleKind_13 : decode cX3_settleKind 13 = .ok (.istore_n 3, 1) := by decide +kernel
theorem dX3_settleKind_14 : decode cX3_settleKind 14 = .ok (.iload_n 3, 1) := by decide +kernel
theorem dX3_settleKind_15 : decode cX3_settleKind 15 = .ok (.aload_n 0, 1) := by decide +kernel
theorem dX3_settleKind_16 : decode cX3_settleKind 16 = .ok (.getfield 31, 3) := by decide +kernel
theorem dX3_settleKind_19 : decode cX3_settleKind 19 = .ok (.if_icmp .ge 33, 3) := by decide +kernel
theorem dX3_settleKind_22 : decode cX3_settleKind 22 = .ok (.iload_n 1, 1) := by decide +kernel
theorem dX3_settleKind_23 : decode cX3_settleKind 23 = .ok (.ifCond .ne 17, 3) := by decide +kernel
theorem dX3_settleKind_26 : decode cX3_settleKind 26 = .ok (.aload_n 0, 1) := by decide +kernel
theorem dX3_settleKind_27 : decode cX3_settleKind 27 = .ok (.getfield 15, 3) := by decide +kernel
theorem dX3_settleKind_30 : decode cX3_settleKind 30 = .ok (.iload_n 2, 1) := by decide +kernel
theorem dX3_settleKind_31 : decode cX3_settleKind 31 = .ok (.iconst 4, 1) := by decide +kernel
theorem dX3_settleKind_32 : decode cX3_settleKind 32 = .ok (.imul, 1) := by decide +kernel
theorem dX3_settleKind_33 : decode cX3_settleKind 33 = .ok (.iload_n 3, 1) := by decide +kernel
theorem dX3_settleKind_34 : decode cX3_settleKind 34 = .ok (.iadd, 1) := by decide +kernel
theorem dX3_settleKind_35 : decode cX3_settleKind 35 = .ok (.iaload, 1) := by decide +kernel
theorem dX3_settleKind_36 : decode cX3_settleKind 36 = .ok (.iconst (-1), 1) := by decide +kernel
theorem dX3_settleKind_37 : decode cX3_settleKind 37 = .ok (.if_icmp .ne 7, 3) := by decide +kernel
theorem dX3_settleKind_40 : decode cX3_settleKind 40 = .ok (.iconst 1, 1) := by decide +kernel
theorem dX3_settleKind_41 : decode cX3_settleKind 41 = .ok (.goto 4, 3) := by decide +kernel
theorem dX3_settleKind_44 : decode cX3_settleKind 44 = .ok (.iconst 0, 1) := by decide +kernel
theorem dX3_settleKind_45 : decode cX3_settleKind 45 = .ok (.istore_n 1, 1) := by decide +kernel
theorem dX3_settleKind_46 : decode cX3_settleKind 46 = .ok (.iinc 3 1, 3) := by decide +kernel
theorem dX3_settleKind_49 : decode cX3_settleKind 49 = .ok (.goto (-35), 3) := by decide +kernel
theorem dX3_settleKind_52 : decode cX3_settleKind 52 = .ok (.iinc 2 1, 3) := by decide +kernel
theorem dX3_settleKind_55 : decode cX3_settleKind 55 = .ok (.goto (-51), 3) := by decide +kernel
theorem dX3_settleKind_58 : decode cX3_settleKind 58 = .ok (.aload_n 0, 1) := by decide +kernel
theorem dX3_settleKind_59 : decode cX3_settleKind 59 = .ok (.invokevirtual 63, 3) := by decide +kernel
theorem dX3_settleKind_62 : decode cX3_settleKind 62 = .ok (.iconst 1, 1) := by decide +kernel
theorem dX3_settleKind_63 : decode cX3_settleKind 63 = .ok (.if_icmp .le 7, 3) := by decide +kernel
theorem dX3_settleKind_66 : decode cX3_settleKind 66 = .ok (.iconst 1, 1) := by decide +kernel
theorem dX3_settleKind_67 : decode cX3_settleKind 67 = .ok (.goto 4, 3) := by decide +kernel
theorem dX3_settleKind_70 : decode cX3_settleKind 70 = .ok (.iconst 0, 1) := by decide +kernel
theorem dX3_settleKind_71 : decode cX3_settleKind 71 = .ok (.istore_n 2, 1) := by decide +kernel
theorem dX3_settleKind_72 : decode cX3_settleKind 72 = .ok (.aload_n 0, 1) := by decide +kernel
theorem dX3_settleKind_73 : decode cX3_settleKind 73 = .ok (.iload_n 1, 1) := by decide +kernel
theorem dX3_settleKind_74 : decode cX3_settleKind 74 = .ok (.ifCond .eq 7, 3) := by decide +kernel
theorem dX3_settleKind_77 : decode cX3_settleKind 77 = .ok (.iconst 2, 1) := by decide +kernel
theorem dX3_settleKind_78 : decode cX3_settleKind 78 = .ok (.goto 4, 3) := by decide +kernel
theorem dX3_settleKind_81 : decode cX3_settleKind 81 = .ok (.iload_n 2, 1) := by decide +kernel
theorem dX3_settleKind_82 : decode cX3_settleKind 82 = .ok (.putfield 24, 3) := by decide +kernel
theorem dX3_settleKind_85 : decode cX3_settleKind 85 = .ok (.return_, 1) := by decide +kernel
def f_Machine_settleKind_b82 (s0 : Nat) (s1 : Int32) (Q : MI → MJ → Prop) (I : MI) (J : MJ) : Prop :=
  ∀ I82 : MI, I82 = sI I s0 (upd (I s0) 0 s1) → Q I82 J
def f_Machine_settleKind_b71 (x0 : Nat) (x1 : Int32) (s0 : Int32) (Q : MI → MJ → Prop) (I : MI) (J : MJ) : Prop :=
  (if x1 = 0 then f_Machine_settleKind_b82 x0 s0 Q I J else f_Machine_settleKind_b82 x0 2 Q I J)
def f_Machine_settleKind_b45 (x3 : Int32) (s0 : Int32) (kh : Int32 → Int32 → MI → MJ → Prop) (I : MI) (J : MJ) : Prop :=
  ∀ t46 : Int32, t46 = x3 + 1 → kh s0 t46 I J
def f_Machine_settleKind_b40 (x3 : Int32) (kh : Int32 → Int32 → MI → MJ → Prop) (I : MI) (J : MJ) : Prop :=
  f_Machine_settleKind_b45 x3 1 kh I J
def f_Machine_settleKind_L14 (x0 : Nat) (x2 : Int32) (k52 : Int32 → MI → MJ → Prop) : Nat → Int32 → Int32 → MI → MJ → Prop
  | 0, _, _, _, _ => False
  | nf14 + 1, x1, x3, I, J =>
  (if (I x0 2) ≤ x3 then k52 x1 I J else (if x1 = 0 then vp_in ((x2 * 4) + x3) 56 ∧ (if (I (x0 + 2) ((x2 * 4) + x3).toNatClampNeg) = (-1) then f_Machine_settleKind_b40 x3 (f_Machine_settleKind_L14 x0 x2 k52 nf14) I J else f_Machine_settleKind_b45 x3 0 (f_Machine_settleKind_L14 x0 x2 k52 nf14) I J) else f_Machine_settleKind_b40 x3 (f_Machine_settleKind_L14 x0 x2 k52 nf14) I J))
def f_Machine_settleKind_L4 (x0 : Nat) (k58 : Int32 → MI → MJ → Prop) : Nat → Int32 → Int32 → MI → MJ → Prop
  | 0, _, _, _, _ => False
  | nf4 + 1, x1, x2, I, J =>
  (if (I x0 1) ≤ x2 then k58 x1 I J else ∃ n, f_Machine_settleKind_L14 x0 x2 (fun (z52_x1 : Int32) (I : MI) (J : MJ) => ∀ t52 : Int32, t52 = x2 + 1 → f_Machine_settleKind_L4 x0 k58 nf4 z52_x1 t52 I J) n x1 0 I J)
def f_Machine_settleKind (o : Nat) (I : MI) (J : MJ) (Q : MI → MJ → Prop) : Prop :=
  ∃ n, f_Machine_settleKind_L4 o (fun (z58_x1 : Int32) (I : MI) (J : MJ) => f_Machine_topAnswer o I J (fun r59 I59 J59 => (if r59 ≤ 1 then f_Machine_settleKind_b71 o z58_x1 0 Q I59 J59 else f_Machine_settleKind_b71 o z58_x1 1 Q I59 J59))) n 0 0 I J
set_option maxRecDepth 100000 in
set_option maxHeartbeats 4000000 in
theorem w_Machine_settleKind_b82 {Γ : Ctx} {Q : MI → MJ → Prop} {s0 : Nat} {s1 : Int32}  (X : Cx Γ cX3_settleKind 4 RX3 2) (Y : Rt Γ (Pv Q) (Option.none : Option Jvm.ClassFile.FieldType)) (hs0 : okM s0)  {I : MI} {J : MJ} (h : f_Machine_settleKind_b82 s0 s1 Q I J) : Wp Γ 4 82 [] [.int s1, .ref (ad Γ s0)] I J := by
  unfold f_Machine_settleKind_b82 at h
  refine pf_X3_24 X hs0.1 dX3_settleKind_82 (fun I82 eI82 => ?_)
  have h := h I82 eI82
  exact wp_vret X Y dX3_settleKind_85 ⟨rfl, h⟩

set_option maxRecDepth 100000 in
set_option maxHeartbeats 4000000 in
theorem w_Machine_settleKind_b71 {Γ : Ctx} {Q : MI → MJ → Prop} {x0 : Nat} {x1 : Int32} {s0 : Int32}  (X : Cx Γ cX3_settleKind 4 RX3 2) (Y : Rt Γ (Pv Q) (Option.none : Option Jvm.ClassFile.FieldType)) (hx0 : okM x0)  {I : MI} {J : MJ} (h : f_Machine_settleKind_b71 x0 x1 s0 Q I J) : Wp Γ 4 71 [(0, .ref (ad Γ x0)), (1, .int x1)] [.int s0] I J := by
  unfold f_Machine_settleKind_b71 at h
  refine wp_istore_n (L' := [(2, .int s0), (0, .ref (ad Γ x0)), (1, .int x1)]) X dX3_settleKind_71 rfl (by decide) rfl ?_
  refine wp_aload_n X dX3_settleKind_72 1 rfl ?_
  refine wp_iload_n X dX3_settleKind_73 2 rfl ?_
  refine wp_if_eq (tgt := 81) X dX3_settleKind_74 (by decide) (fun hc => ?_) (fun hc => ?_)
  · have h := ite_t h hc
    refine wp_iload_n X dX3_settleKind_81 0 rfl ?_
    refine wp_sub X [] rfl ?_
    exact w_Machine_settleKind_b82 X Y hx0 h
  · have h := ite_f h hc
    refine wp_iconst X dX3_settleKind_77 ic_2 ?_
    refine wp_goto (tgt := 82) X dX3_settleKind_78 (by decide) ?_
    refine wp_sub X [] rfl ?_
    exact w_Machine_settleKind_b82 X Y hx0 h

set_option maxRecDepth 100000 in
set_option maxHeartbeats 4000000 in
theorem w_Machine_settleKind_b45 {Γ : Ctx} {Q : MI → MJ → Prop} {x0 : Nat} {x2 : Int32} {x3 : Int32} {s0 : Int32} {kh : Int32 → Int32 → MI → MJ → Prop} (X : Cx Γ cX3_settleKind 4 RX3 2) (Y : Rt Γ (Pv Q) (Option.none : Option Jvm.ClassFile.FieldType)) (hx0 : okM x0) (hkh : ∀ (x1 : Int32) (x3 : Int32) (I : MI) (J : MJ), kh x1 x3 I J → Wp Γ 4 14 [(0, .ref (ad Γ x0)), (1, .int x1), (2, .int x2), (3, .int x3)] [] I J) {I : MI} {J : MJ} (h : f_Machine_settleKind_b45 x3 s0 kh I J) : Wp Γ 4 45 [(0, .ref (ad Γ x0)), (2, .int x2), (3, .int x3)] [.int s0] I J := by
  unfold f_Machine_settleKind_b45 at h
  refine wp_istore_n (L' := [(1, .int s0), (0, .ref (ad Γ x0)), (2, .int x2), (3, .int x3)]) X dX3_settleKind_45 rfl (by decide) rfl ?_
  obtain ⟨t46, et46⟩ : ∃ y : Int32, y = x3 + 1 := ⟨_, rfl⟩
  have h := h t46 et46
  refine wp_iinc (L' := [(3, .int t46), (1, .int s0), (0, .ref (ad Γ x0)), (2, .int x2)]) X dX3_settleKind_46 3 rfl (ii_1 et46) (by decide) rfl ?_
  refine wp_goto (tgt := 14) X dX3_settleKind_49 (by decide) ?_
  refine wp_sub X [2, 1, 3, 0] rfl ?_
  exact hkh _ _ _ _ h

set_option maxRecDepth 100000 in
set_option maxHeartbeats 4000000 in
theorem w_Machine_settleKind_b40 {Γ : Ctx} {Q : MI → MJ → Prop} {x0 : Nat} {x2 : Int32} {x3 : Int32} {kh : Int32 → Int32 → MI → MJ → Prop} (X : Cx Γ cX3_settleKind 4 RX3 2) (Y : Rt Γ (Pv Q) (Option.none : Option Jvm.ClassFile.FieldType)) (hx0 : okM x0) (hkh : ∀ (x1 : Int32) (x3 : Int32) (I : MI) (J : MJ), kh x1 x3 I J → Wp Γ 4 14 [(0, .ref (ad Γ x0)), (1, .int x1), (2, .int x2), (3, .int x3)] [] I J) {I : MI} {J : MJ} (h : f_Machine_settleKind_b40 x3 kh I J) : Wp Γ 4 40 [(0, .ref (ad Γ x0)), (2, .int x2), (3, .int x3)] [] I J := by
  unfold f_Machine_settleKind_b40 at h
  refine wp_iconst X dX3_settleKind_40 ic_1 ?_
  refine wp_goto (tgt := 45) X dX3_settleKind_41 (by decide) ?_
  exact w_Machine_settleKind_b45 X Y hx0 hkh h

set_option maxRecDepth 100000 in
set_option maxHeartbeats 4000000 in
theorem w_Machine_settleKind_L14 {Γ : Ctx} {Q : MI → MJ → Prop} {x0 : Nat} {x2 : Int32} {k52 : Int32 → MI → MJ → Prop} (X : Cx Γ cX3_settleKind 4 RX3 2) (Y : Rt Γ (Pv Q) (Option.none : Option Jvm.ClassFile.FieldType)) (hx0 : okM x0) (hk52 : ∀ (x1 : Int32) (I : MI) (J : MJ), k52 x1 I J → Wp Γ 4 52 [(0, .ref (ad Γ x0)), (1, .int x1), (2, .int x2)] [] I J) : ∀ (n : Nat) (x1 : Int32) (x3 : Int32) (I : MI) (J : MJ), f_Machine_settleKind_L14 x0 x2 k52 n x1 x3 I J → Wp Γ 4 14 [(0, .ref (ad Γ x0)), (1, .int x1), (2, .int x2), (3, .int x3)] [] I J := by
  intro n
  induction n with
  | zero => intro x1 x3 I J h; exact absurd h (by simp [f_Machine_settleKind_L14])
  | succ n ih =>
  intro x1 x3 I J h
  unfold f_Machine_settleKind_L14 at h
  refine wp_iload_n X dX3_settleKind_14 3 rfl ?_
  refine wp_aload_n X dX3_settleKind_15 0 rfl ?_
  refine gf_X3_31 X hx0.1 dX3_settleKind_16 ?_
  refine wp_icmp_ge (tgt := 52) X dX3_settleKind_19 (by decide) (fun hc => ?_) (fun hc => ?_)
  · have h := ite_t h hc
    refine wp_sub X [0, 1, 2] rfl ?_
    exact hk52 _ _ _ h
  · have h := ite_f h hc
    refine wp_iload_n X dX3_settleKind_22 1 rfl ?_
    refine wp_if_ne (tgt := 40) X dX3_settleKind_23 (by decide) (fun hc => ?_) (fun hc => ?_)
    · have h := ite_f h hc
      refine wp_sub X [0, 2, 3] rfl ?_
      exact w_Machine_settleKind_b40 X Y hx0 ih h
    · have h := ite_t h hc
      refine wp_aload_n X dX3_settleKind_26 0 rfl ?_
      refine gf_X3_15 (o' := x0 + 2) X hx0.1 rfl dX3_settleKind_27 ?_
      refine wp_iload_n X dX3_settleKind_30 2 rfl ?_
      refine wp_iconst X dX3_settleKind_31 ic_4 ?_
      refine wp_imul X dX3_settleKind_32 ?_
      refine wp_iload_n X dX3_settleKind_33 3 rfl ?_
      refine wp_iadd X dX3_settleKind_34 ?_
      obtain ⟨hb35, h⟩ := h
      refine wp_iald X hx0.2.2.1 hb35 dX3_settleKind_35 ?_
      refine wp_iconst X dX3_settleKind_36 ic_m1 ?_
      refine wp_icmp_ne (tgt := 44) X dX3_settleKind_37 (by decide) (fun hc => ?_) (fun hc => ?_)
      · have h := ite_f h hc
        refine wp_iconst X dX3_settleKind_44 ic_0 ?_
        refine wp_sub X [0, 2, 3] rfl ?_
        exact w_Machine_settleKind_b45 X Y hx0 ih h
      · have h := ite_t h hc
        refine wp_sub X [0, 2, 3] rfl ?_
        exact w_Machine_settleKind_b40 X Y hx0 ih h

set_option maxRecDepth 100000 in
set_option maxHeartbeats 4000000 in
theorem w_Machine_settleKind_L4 {Γ : Ctx} {Q : MI → MJ → Prop} {x0 : Nat} {k58 : Int32 → MI → MJ → Prop} (X : Cx Γ cX3_settleKind 4 RX3 2) (Y : Rt Γ (Pv Q) (Option.none : Option Jvm.ClassFile.FieldType)) (hx0 : okM x0) (hk58 : ∀ (x1 : Int32) (I : MI) (J : MJ), k58 x1 I J → Wp Γ 4 58 [(0, .ref (ad Γ x0)), (1, .int x1)] [] I J) : ∀ (n : Nat) (x1 : Int32) (x2 : Int32) (I : MI) (J : MJ), f_Machine_settleKind_L4 x0 k58 n x1 x2 I J → Wp Γ 4 4 [(0, .ref (ad Γ x0)), (1, .int x1), (2, .int x2)] [] I J := by
  intro n
  induction n with
  | zero => intro x1 x2 I J h; exact absurd h (by simp [f_Machine_settleKind_L4])
  | succ n ih =>
  intro x1 x2 I J h
  unfold f_Machine_settleKind_L4 at h
  refine wp_iload_n X dX3_settleKind_4 2 rfl ?_
  refine wp_aload_n X dX3_settleKind_5 0 rfl ?_
  refine gf_X3_28 X hx0.1 dX3_settleKind_6 ?_
  refine wp_icmp_ge (tgt := 58) X dX3_settleKind_9 (by decide) (fun hc => ?_) (fun hc => ?_)
  · have h := ite_t h hc
    refine wp_sub X [0, 1] rfl ?_
    exact hk58 _ _ _ h
  · have h := ite_f h hc
    refine wp_iconst X dX3_settleKind_12 ic_0 ?_
    refine wp_istore_n (L' := [(3, .int 0), (0, .ref (ad Γ x0)), (1, .int x1), (2, .int x2)]) X dX3_settleKind_13 rfl (by decide) rfl ?_
    obtain ⟨n, h⟩ := h
    refine wp_sub X [1, 2, 3, 0] rfl ?_
    refine w_Machine_settleKind_L14 X Y hx0 ?_ n _ _ _ _ h
    · intro z52_x1 I J h
      obtain ⟨t52, et52⟩ : ∃ y : Int32, y = x2 + 1 := ⟨_, rfl⟩
      have h := h t52 et52
      refine wp_iinc (L' := [(2, .int t52), (0, .ref (ad Γ x0)), (1, .int z52_x1)]) X dX3_settleKind_52 2 rfl (ii_1 et52) (by decide) rfl ?_
      refine wp_goto (tgt := 4) X dX3_settleKind_55 (by decide) ?_
      refine wp_sub X [1, 2, 0] rfl ?_
      exact ih _ _ _ _ h

set_option maxRecDepth 100000 in
set_option maxHeartbeats 4000000 in
theorem w_Machine_settleKind_b0 {Γ : Ctx} {Q : MI → MJ → Prop} {o : Nat}  (X : Cx Γ cX3_settleKind 4 RX3 2) (Y : Rt Γ (Pv Q) (Option.none : Option Jvm.ClassFile.FieldType)) (ho : okM o)  {I : MI} {J : MJ} (h : f_Machine_settleKind o I J Q) : Wp Γ 4 0 [(0, .ref (ad Γ o))] [] I J := by
  unfold f_Machine_settleKind at h
  refine wp_iconst X dX3_settleKind_0 ic_0 ?_
  refine wp_istore_n (L' := [(1, .int 0), (0, .ref (ad Γ o))]) X dX3_settleKind_1 rfl (by decide) rfl ?_
  refine wp_iconst X dX3_settleKind_2 ic_0 ?_
  refine wp_istore_n (L' := [(2, .int 0), (1, .int 0), (0, .ref (ad Γ o))]) X dX3_settleKind_3 rfl (by decide) rfl ?_
  obtain ⟨n, h⟩ := h
  refine wp_sub X [2, 1, 0] rfl ?_
  refine w_Machine_settleKind_L4 X Y ho ?_ n _ _ _ _ h
  · intro z58_x1 I J h
    refine wp_aload_n X dX3_settleKind_58 0 rfl ?_
    refine cv_Machine_topAnswer X dX3_settleKind_59 ml_X3_63 ho h (Nat.le_of_ble_eq_true rfl) (by decide) (fun r59 I59 J59 h => ?_)
    refine wp_iconst X dX3_settleKind_62 ic_1 ?_
    refine wp_icmp_le (tgt := 70) X dX3_settleKind_63 (by decide) (fun hc => ?_) (fun hc => ?_)
    · have h := ite_t h hc
      refine wp_iconst X dX3_settleKind_70 ic_0 ?_
      exact w_Machine_settleKind_b71 X Y ho h
    · have h := ite_f h hc
      refine wp_iconst X dX3_settleKind_66 ic_1 ?_
      refine wp_goto (tgt := 71) X dX3_settleKind_67 (by decide) ?_
      exact w_Machine_settleKind_b71 X Y ho h

theorem c_Machine_settleKind {l : Launch} {g : GE} (hg : Inj g) {I : MI} {J : MJ} {Q : MI → MJ → Prop} {o : Nat} (ho : okM o) (h : f_Machine_settleKind o I J Q) : Cm l g yX3_settleKind cX3_settleKind 4 (Option.none : Option Jvm.ClassFile.FieldType) 2 [.ref (g.1 o)] I J (Pv Q) := by
  refine Cm.of (As := fun ad => [.ref (ad o)]) hg pn_X3 (Nat.le_of_ble_eq_true rfl) ?_
  exact (fun Γ _ _ X Y => w_Machine_settleKind_b0 X Y ho h)
theorem cv_Machine_settleKind {Γ : Ctx} {cc : ByteArray} {nL d pc index : Nat} {own : String} {L : List (Nat × Value)} {rest : List Value} {I : MI} {J : MJ} {Q : MI → MJ → Prop} {o : Nat} (X : Cx Γ cc nL own d) (hd : decode cc pc = .ok (.invokevirtual index, 3)) (hlink : Cond.methodLink own index yX3_settleKind ∈ TT) (ho : okM o) (h : f_Machine_settleKind o I J Q) (hrest : (rest.map fun v => v.category).sum ≤ 8) (hdd : 2 + 1 ≤ d) (kk : ∀ (I' : MI) (J' : MJ), Q I' J' → Wp Γ nL (pc + 3) L rest I' J') : Wp Γ nL pc L (.ref (ad Γ o) :: rest) I J :=
  wp_callV (As := []) (rest := rest) (T := TX3) (N := 7) X hd hlink mv_X3_settleKind ho.1 (by decide) rfl (c_Machine_settleKind X.inj ho h) rfl rfl hrest hdd (fun v I' J' hv => by obtain ⟨rfl, hq⟩ := hv; exact kk I' J' hq)
theorem dX0_writeGroups_0 : decode cX0_writeGroups 0 = .ok (.aload_n 1, 1) := by decide +kernel
theorem dX0_writeGroups_1 : decode cX0_writeGroups 1 = .ok (.iconst 2, 1) := by decide +kernel
theorem dX0_writeGroups_2 : decode cX0_writeGroups 2 = .ok (.aload_n 0, 1) := by decide +kernel
theorem dX0_writeGroups_3 : decode cX0_writeGroups 3 = .ok (.getfield 80, 3) := by decide +kernel
theorem dX0_writeGroups_6 : decode cX0_writeGroups 6 = .ok (.bipush 14, 2) := by decide +kernel
theorem dX0_writeGroups_8 : decode cX0_writeGroups 8 = .ok (.invokestatic 99, 3) := by decide +kernel
theorem dX0_writeGroups_11 : decode cX0_writeGroups 11 = .ok (.iload_n 2, 1) := by decide +kernel
theorem dX0_writeGroups_12 : decode cX0_writeGroups 12 = .ok (.invokevirtual 104, 3) := by decide +kernel
theorem dX0_writeGroups_15 : decode cX0_writeGroups 15 = .ok (.iconst 0, 1) := by decide +kernel
theorem dX0_writeGroups_16 : decode cX0_writeGroups 16 = .ok (.istore_n 3, 1) := by decide +kernel
theorem dX0_writeGroups_17 : decode cX0_writeGroups 17 = .ok (.iload_n 3, 1) := by decide +kernel
theorem dX0_writeGroups_18 : decode cX0_writeGroups 18 = .ok (.aload_n 1, 1) := by decide +kernel
theorem dX0_writeGroups_19 : decode cX0_writeGroups 19 = .ok (.getfield 108, 3) := by decide +kernel
theorem dX0_writeGroups_22 : decode cX0_writeGroups 22 = .ok (.if_icmp .ge 64, 3) := by decide +kernel
theorem dX0_writeGroups_25 : decode cX0_writeGroups 25 = .ok (.aload_n 1, 1) := by decide +kernel
theorem dX0_writeGroups_26 : decode cX0_writeGroups 26 = .ok (.getfield 111, 3) := by decide +kernel
theorem dX0_writeGroups_29 : decode cX0_writeGroups 29 = .ok (.iload_n 3, 1) := by decide +kernel
theorem dX0_writeGroups_30 : decode cX0_writeGroups 30 = .ok (.aload_n 0, 1) := by decide +kernel
theorem dX0_writeGroups_31 : decode cX0_writeGroups 31 = .ok (.getfield 28, 3) := by decide +kernel
theorem dX0_writeGroups_34 : decode cX0_writeGroups 34 = .ok (.aload_n 0, 1) := by decide +kernel
theorem dX0_writeGroups_35 : decode cX0_writeGroups 35 = .ok (.getfield 37, 3) := by decide +kernel
theorem dX0_writeGroups_38 : decode cX0_writeGroups 38 = .ok (.iload_n 3, 1) := by decide +kernel
theorem dX0_writeGroups_39 : decode cX0_writeGroups 39 = .ok (.iaload, 1) := by decide +kernel
theorem dX0_writeGroups_40 : decode cX0_writeGroups 40 = .ok (.iaload, 1) := by decide +kernel
theorem dX0_writeGroups_41 : decode cX0_writeGroups 41 = .ok (.iastore, 1) := by decide +kernel
theorem dX0_writeGroups_42 : decode cX0_writeGroups 42 = .ok (.iconst 0, 1) := by decide +kernel
theorem dX0_writeGroups_43 : decode cX0_writeGroups 43 = .ok (.istore 4, 2) := by decide +kernel
theorem dX0_writeGroups_45 : decode cX0_writeGroups 45 = .ok (.iload 4, 2) := by decide +kernel
theorem dX0_writeGroups_47 : decode cX0_writeGroups 47 = .ok (.iload_n 2, 1) := by decide +kernel
theorem dX0_writeGroups_48 : decode cX0_writeGroups 48 = .ok (.if_icmp .ge 32, 3) := by decide +kernel
theorem dX0_writeGroups_51 : decode cX0_writeGroups 51 = .ok (.aload_n 1, 1) := by decide +kernel
theorem dX0_writeGroups_52 : decode cX0_writeGroups 52 = .ok (.getfield 112, 3) := by decide +kernel
theorem dX0_writeGroups_55 : decode cX0_writeGroups 55 = .ok (.iload_n 3, 1) := by decide +kernel
theorem dX0_writeGroups_56 : decode cX0_writeGroups 56 = .ok (.iconst 4, 1) := by decide +kernel
theorem dX0_writeGroups_57 : decode cX0_writeGroups 57 = .ok (.imul, 1) := by decide +kernel
theorem dX0_writeGroups_58 : decode cX0_writeGroups 58 = .ok (.iload 4, 2) := by decide +kernel
theorem dX0_writeGroups_60 : decode cX0_writeGroups 60 = .ok (.iadd, 1) := by decide +kernel
theorem dX0_writeGroups_61 : decode cX0_writeGroups 61 = .ok (.aload_n 0, 1) := by decide +kernel
theorem dX0_writeGroups_62 : decode cX0_writeGroups 62 = .ok (.aload_n 0, 1) := by decide +kernel
theorem dX0_writeGroups_63 : decode cX0_writeGroups 63 = .ok (.getfield 37, 3) := by decide +kernel
theorem dX0_writeGroups_66 : decode cX0_writeGroups 66 = .ok (.iload_n 3, 1) := by decide +kernel
theorem dX0_writeGroups_67 : decode cX0_writeGroups 67 = .ok (.iaload, 1) := by decide +kernel
theorem dX0_writeGroups_68 : decode cX0_writeGroups 68 = .ok (.iload 4, 2) := by decide +kernel
theorem dX0_writeGroups_70 : decode cX0_writeGroups 70 = .ok (.invokevirtual 115, 3) := by decide +kernel
theorem dX0_writeGroups_73 : decode cX0_writeGroups 73 = .ok (.iastore, 1) := by decide +kernel
theorem dX0_writeGroups_74 : decode cX0_writeGroups 74 = .ok (.iinc 4 1, 3) := by decide +kernel
theorem dX0_writeGroups_77 : decode cX0_writeGroups 77 = .ok (.goto (-32), 3) := by decide +kernel
theorem dX0_writeGroups_80 : decode cX0_writeGroups 80 = .ok (.iinc 3 1, 3) := by decide +kernel
theorem dX0_writeGroups_83 : decode cX0_writeGroups 83 = .ok (.goto (-66), 3) := by decide +kernel
theorem dX0_writeGroups_86 : decode cX0_writeGroups 86 = .ok (.aload_n 1, 1) := by decide +kernel
theorem dX0_writeGroups_87 : decode cX0_writeGroups 87 = .ok (.invokevirtual 118, 3) := by decide +kernel
theorem dX0_writeGroups_90 : decode cX0_writeGroups 90 = .ok (.return_, 1) := by decide +kernel
def f_Chart_writeGroups_L45 (x1 : Nat) (x2 : Int32) (x3 : Int32) (k80 : MI → MJ → Prop) : Nat → Int32 → MI → MJ → Prop
  | 0, _, _, _ => False
  | nf45 + 1, x4, I, J =>
  (if x2 ≤ x4 then k80 I J else vp_in x3 14 ∧ f_Chart_groupBehind (I 11 x3.toNatClampNeg) x4 I J (fun r70 I70 J70 => vp_in ((x3 * 4) + x4) 56 ∧ ∀ I73 : MI, I73 = sI I70 (x1 + 2) (upd (I70 (x1 + 2)) ((x3 * 4) + x4).toNatClampNeg r70) → ∀ t74 : Int32, t74 = x4 + 1 → f_Chart_writeGroups_L45 x1 x2 x3 k80 nf45 t74 I73 J70))
def f_Chart_writeGroups_L17 (x1 : Nat) (x2 : Int32) (k86 : MI → MJ → Prop) : Nat → Int32 → MI → MJ → Prop
  | 0, _, _, _ => False
  | nf17 + 1, x3, I, J =>
  (if (I x1 1) ≤ x3 then k86 I J else vp_in x3 14 ∧ vp_in (I 11 x3.toNatClampNeg) 225 ∧ vp_in x3 14 ∧ ∀ I41 : MI, I41 = sI I (x1 + 4) (upd (I (x1 + 4)) x3.toNatClampNeg (I 8 (I 11 x3.toNatClampNeg).toNatClampNeg)) → ∃ n, f_Chart_writeGroups_L45 x1 x2 x3 (fun (I : MI) (J : MJ) => ∀ t80 : Int32, t80 = x3 + 1 → f_Chart_writeGroups_L17 x1 x2 k86 nf17 t80 I J) n 0 I41 J)
def f_Chart_writeGroups (x1 : Nat) (x2 : Int32) (I : MI) (J : MJ) (Q : MI → MJ → Prop) : Prop :=
  f_Machine_begin x1 (2 : Int32) (if 14 < (I 2 2) then 14 else I 2 2) x2 I J (fun I12 J12 => ∃ n, f_Chart_writeGroups_L17 x1 x2 (fun (I : MI) (J : MJ) => f_Machine_settleKind x1 I J (fun I87 J87 => Q I87 J87)) n 0 I12 J12)
set_option maxRecDepth 100000 in
set_option maxHeartbeats 4000000 in
theorem w_Chart_writeGroups_L45 {Γ : Ctx} {Q : MI → MJ → Prop} {x1 : Nat} {x2 : Int32} {x3 : Int32} {k80 : MI → MJ → Prop} (X : Cx Γ cX0_writeGroups 5 RX0 3) (Y : Rt Γ (Pv Q) (Option.none : Option Jvm.ClassFile.FieldType)) (hx1 : okM x1) (hk80 : ∀ (I : MI) (J : MJ), k80 I J → Wp Γ 5 80 [(0, .ref (ad Γ 2)), (1, .ref (ad Γ x1)), (2, .int x2), (3, .int x3)] [] I J) : ∀ (n : Nat) (x4 : Int32) (I : MI) (J : MJ), f_Chart_writeGroups_L45 x1 x2 x3 k80 n x4 I J → Wp Γ 5 45 [(0, .ref (ad Γ 2)), (1, .ref (ad Γ x1)), (2, .int x2), (3, .int x3), (4, .int x4)] [] I J := by
  intro n
  induction n with
  | zero => intro x4 I J h; exact absurd h (by simp [f_Chart_writeGroups_L45])
  | succ n ih =>
  intro x4 I J h
  unfold f_Chart_writeGroups_L45 at h
  refine wp_iload X dX0_writeGroups_45 4 rfl ?_
  refine wp_iload_n X dX0_writeGroups_47 2 rfl ?_
  refine wp_icmp_ge (tgt := 80) X dX0_writeGroups_48 (by decide) (fun hc => ?_) (fun hc => ?_)
  · have h := ite_t h hc
    refine wp_sub X [0, 1, 2, 3] rfl ?_
    exact hk80 _ _ h
  · have h := ite_f h hc
    refine wp_aload_n X dX0_writeGroups_51 1 rfl ?_
    refine gf_X0_112 (o' := x1 + 2) X hx1.1 rfl dX0_writeGroups_52 ?_
    refine wp_iload_n X dX0_writeGroups_55 3 rfl ?_
    refine wp_iconst X dX0_writeGroups_56 ic_4 ?_
    refine wp_imul X dX0_writeGroups_57 ?_
    refine wp_iload X dX0_writeGroups_58 4 rfl ?_
    refine wp_iadd X dX0_writeGroups_60 ?_
    refine wp_aload_n X dX0_writeGroups_61 0 rfl ?_
    refine wp_aload_n X dX0_writeGroups_62 0 rfl ?_
    refine gf_X0_37 (o' := 11) X sh_2 rfl dX0_writeGroups_63 ?_
    refine wp_iload_n X dX0_writeGroups_66 3 rfl ?_
    obtain ⟨hb67, h⟩ := h
    refine wp_iald X sh_11 hb67 dX0_writeGroups_67 ?_
    refine wp_iload X dX0_writeGroups_68 4 rfl ?_
    refine cv_Chart_groupBehind X dX0_writeGroups_70 ml_X0_115  h (Nat.le_of_ble_eq_true rfl) (by decide) (fun r70 I70 J70 h => ?_)
    obtain ⟨hb73, h⟩ := h
    refine wp_iast X hx1.2.2.1 hb73 dX0_writeGroups_73 ?_
    refine wp_memI (fun I73 eI73 => ?_)
    have h := h I73 eI73
    obtain ⟨t74, et74⟩ : ∃ y : Int32, y = x4 + 1 := ⟨_, rfl⟩
    have h := h t74 et74
    refine wp_iinc (L' := [(4, .int t74), (0, .ref (ad Γ 2)), (1, .ref (ad Γ x1)), (2, .int x2), (3, .int x3)]) X dX0_writeGroups_74 4 rfl (ii_1 et74) (by decide) rfl ?_
    refine wp_goto (tgt := 45) X dX0_writeGroups_77 (by decide) ?_
    refine wp_sub X [1, 2, 3, 4, 0] rfl ?_
    exact ih _ _ _ h

set_option maxRecDepth 100000 in
set_option maxHeartbeats 4000000 in
theorem w_Chart_writeGroups_L17 {Γ : Ctx} {Q : MI → MJ → Prop} {x1 : Nat} {x2 : Int32} {k86 : MI → MJ → Prop} (X : Cx Γ cX0_writeGroups 5 RX0 3) (Y : Rt Γ (Pv Q) (Option.none : Option Jvm.ClassFile.FieldType)) (hx1 : okM x1) (hk86 : ∀ (I : MI) (J : MJ), k86 I J → Wp Γ 5 86 [(1, .ref (ad Γ x1))] [] I J) : ∀ (n : Nat) (x3 : Int32) (I : MI) (J : MJ), f_Chart_writeGroups_L17 x1 x2 k86 n x3 I J → Wp Γ 5 17 [(0, .ref (ad Γ 2)), (1, .ref (ad Γ x1)), (2, .int x2), (3, .int x3)] [] I J := by
  intro n
  induction n with
  | zero => intro x3 I J h; exact absurd h (by simp [f_Chart_writeGroups_L17])
  | succ n ih =>
  intro x3 I J h
  unfold f_Chart_writeGroups_L17 at h
  refine wp_iload_n X dX0_writeGroups_17 3 rfl ?_
  refine wp_aload_n X dX0_writeGroups_18 1 rfl ?_
  refine gf_X0_108 X hx1.1 dX0_writeGroups_19 ?_
  refine wp_icmp_ge (tgt := 86) X dX0_writeGroups_22 (by decide) (fun hc => ?_) (fun hc => ?_)
  · have h := ite_t h hc
    refine wp_sub X [1] rfl ?_
    exact hk86 _ _ h
  · have h := ite_f h hc
    refine wp_aload_n X dX0_writeGroups_25 1 rfl ?_
    refine gf_X0_111 (o' := x1 + 4) X hx1.1 rfl dX0_writeGroups_26 ?_
    refine wp_iload_n X dX0_writeGroups_29 3 rfl ?_
    refine wp_aload_n X dX0_writeGroups_30 0 rfl ?_
    refine gf_X0_28 (o' := 8) X sh_2 rfl dX0_writeGroups_31 ?_
    refine wp_aload_n X dX0_writeGroups_34 0 rfl ?_
    refine gf_X0_37 (o' := 11) X sh_2 rfl dX0_writeGroups_35 ?_
    refine wp_iload_n X dX0_writeGroups_38 3 rfl ?_
    obtain ⟨hb39, h⟩ := h
    refine wp_iald X sh_11 hb39 dX0_writeGroups_39 ?_
    obtain ⟨hb40, h⟩ := h
    refine wp_iald X sh_8 hb40 dX0_writeGroups_40 ?_
    obtain ⟨hb41, h⟩ := h
    refine wp_iast X hx1.2.2.2.2 hb41 dX0_writeGroups_41 ?_
    refine wp_memI (fun I41 eI41 => ?_)
    have h := h I41 eI41
    refine wp_iconst X dX0_writeGroups_42 ic_0 ?_
    refine wp_istore (L' := [(4, .int 0), (0, .ref (ad Γ 2)), (1, .ref (ad Γ x1)), (2, .int x2), (3, .int x3)]) X dX0_writeGroups_43 (by decide) rfl ?_
    obtain ⟨n, h⟩ := h
    refine wp_sub X [1, 2, 3, 4, 0] rfl ?_
    refine w_Chart_writeGroups_L45 X Y hx1 ?_ n _ _ _ h
    · intro I J h
      obtain ⟨t80, et80⟩ : ∃ y : Int32, y = x3 + 1 := ⟨_, rfl⟩
      have h := h t80 et80
      refine wp_iinc (L' := [(3, .int t80), (0, .ref (ad Γ 2)), (1, .ref (ad Γ x1)), (2, .int x2)]) X dX0_writeGroups_80 3 rfl (ii_1 et80) (by decide) rfl ?_
      refine wp_goto (tgt := 17) X dX0_writeGroups_83 (by decide) ?_
      refine wp_sub X [1, 2, 3, 0] rfl ?_
      exact ih _ _ _ h

set_option maxRecDepth 100000 in
set_option maxHeartbeats 4000000 in
theorem w_Chart_writeGroups_b0 {Γ : Ctx} {Q : MI → MJ → Prop} {x1 : Nat} {x2 : Int32}  (X : Cx Γ cX0_writeGroups 5 RX0 3) (Y : Rt Γ (Pv Q) (Option.none : Option Jvm.ClassFile.FieldType)) (hx1 : okM x1)  {I : MI} {J : MJ} (h : f_Chart_writeGroups x1 x2 I J Q) : Wp Γ 5 0 [(0, .ref (ad Γ 2)), (1, .ref (ad Γ x1)), (2, .int x2)] [] I J := by
  unfold f_Chart_writeGroups at h
  refine wp_aload_n X dX0_writeGroups_0 1 rfl ?_
  refine wp_iconst X dX0_writeGroups_1 ic_2 ?_
  refine wp_aload_n X dX0_writeGroups_2 0 rfl ?_
  refine gf_X0_80 X sh_2 dX0_writeGroups_3 ?_
  refine wp_bipush X dX0_writeGroups_6 bi_14 ?_
  refine wp_min X dX0_writeGroups_8 ml_X0_99 mw_min (by decide) (Nat.le_of_ble_eq_true rfl) ?_
  refine wp_iload_n X dX0_writeGroups_11 2 rfl ?_
  refine cv_Machine_begin X dX0_writeGroups_12 ml_X0_104 hx1 h (Nat.le_of_ble_eq_true rfl) (by decide) (fun I12 J12 h => ?_)
  refine wp_iconst X dX0_writeGroups_15 ic_0 ?_
  refine wp_istore_n (L' := [(3, .int 0), (0, .ref (ad Γ 2)), (1, .ref (ad Γ x1)), (2, .int x2)]) X dX0_writeGroups_16 rfl (by decide) rfl ?_
  obtain ⟨n, h⟩ := h
  refine wp_sub X [1, 2, 3, 0] rfl ?_
  refine w_Chart_writeGroups_L17 X Y hx1 ?_ n _ _ _ h
  · intro I J h
    refine wp_aload_n X dX0_writeGroups_86 0 rfl ?_
    refine cv_Machine_settleKind X dX0_writeGroups_87 ml_X0_118 hx1 h (Nat.le_of_ble_eq_true rfl) (by decide) (fun I87 J87 h => ?_)
    exact wp_vret X Y dX0_writeGroups_90 ⟨rfl, h⟩

theorem c_Chart_writeGroups {l : Launch} {g : GE} (hg : Inj g) {I : MI} {J : MJ} {Q : MI → MJ → Prop} {x1 : Nat} {x2 : Int32} (hx1 : okM x1) (h : f_Chart_writeGroups x1 x2 I J Q) : Cm l g yX0_writeGroups cX0_writeGroups 5 (Option.none : Option Jvm.ClassFile.FieldType) 3 [.ref (g.1 2), .ref (g.1 x1), .int x2] I J (Pv Q) := by
  refine Cm.of (As := fun ad => [.ref (ad 2), .ref (ad x1), .int x2]) hg pn_X0 (Nat.le_of_ble_eq_true rfl) ?_
  exact (fun Γ _ _ X Y => w_Chart_writeGroups_b0 X Y hx1 h)
theorem cv_Chart_writeGroups {Γ : Ctx} {cc : ByteArray} {nL d pc index : Nat} {own : String} {L : List (Nat × Value)} {rest : List Value} {I : MI} {J : MJ} {Q : MI → MJ → Prop} {x1 : Nat} {x2 : Int32} (X : Cx Γ cc nL own d) (hd : decode cc pc = .ok (.invokevirtual index, 3)) (hlink : Cond.methodLink own index yX0_writeGroups ∈ TT) (hx1 : okM x1) (h : f_Chart_writeGroups x1 x2 I J Q) (hrest : (rest.map fun v => v.category).sum ≤ 8) (hdd : 3 + 1 ≤ d) (kk : ∀ (I' : MI) (J' : MJ), Q I' J' → Wp Γ nL (pc + 3) L rest I' J') : Wp Γ nL pc L (.int x2 :: .ref (ad Γ x1) :: .ref (ad Γ 2) :: rest) I J :=
  wp_callV (As := [.ref (ad Γ x1), .int x2]) (rest := rest) (T := TX0) (N := 12) X hd hlink mv_X0_writeGroups sh_2 (by decide) rfl (c_Chart_writeGroups X.inj hx1 h) rfl rfl hrest hdd (fun v I' J' hv => by obtain ⟨rfl, hq⟩ := hv; exact kk I' J' hq)
theorem dX0_makeLeast_0 : decode cX0_makeLeast 0 = .ok (.aload_n 0, 1) := by decide +kernel
theorem dX0_makeLeast_1 : decode cX0_makeLeast 1 = .ok (.aload_n 1, 1) := by decide +kernel
theorem dX0_makeLeast_2 : decode cX0_makeLeast 2 = .ok (.aload_n 1, 1) := by decide +kernel
theorem dX0_makeLeast_3 : decode cX0_makeLeast 3 = .ok (.getfield 73, 3) := by decide +kernel
theorem dX0_makeLeast_6 : decode cX0_makeLeast 6 = .ok (.bipush 14, 2) := by decide +kernel
theorem dX0_makeLeast_8 : decode cX0_makeLeast 8 = .ok (.invokevirtual 76, 3) := by decide +kernel
theorem dX0_makeLeast_11 : decode cX0_makeLeast 11 = .ok (.ifCond .ne 5, 3) := by decide +kernel
theorem dX0_makeLeast_14 : decode cX0_makeLeast 14 = .ok (.iconst 0, 1) := by decide +kernel
theorem dX0_makeLeast_15 : decode cX0_makeLeast 15 = .ok (.ireturn, 1) := by decide +kernel
theorem dX0_makeLeast_16 : decode cX0_makeLeast 16 = .ok (.aload_n 0, 1) := by decide +kernel
theorem dX0_makeLeast_17 : decode cX0_makeLeast 17 = .ok (.invokevirtual 121, 3) := by decide +kernel
theorem dX0_makeLeast_20 : decode cX0_makeLeast 20 = .ok (.pop, 1) := by decide +kernel
theorem dX0_makeLeast_21 : decode cX0_makeLeast 21 = .ok (.aload_n 0, 1) := by decide +kernel
theorem dX0_makeLeast_22 : decode cX0_makeLeast 22 = .ok (.aload_n 2, 1) := by decide +kernel
theorem dX0_makeLeast_23 : decode cX0_makeLeast 23 = .ok (.aload_n 0, 1) := by decide +kernel
theorem dX0_makeLeast_24 : decode cX0_makeLeast 24 = .ok (.invokevirtual 124, 3) := by decide +kernel
theorem dX0_makeLeast_27 : decode cX0_makeLeast 27 = .ok (.invokevirtual 127, 3) := by decide +kernel
theorem dX0_makeLeast_30 : decode cX0_makeLeast 30 = .ok (.iconst 1, 1) := by decide +kernel
theorem dX0_makeLeast_31 : decode cX0_makeLeast 31 = .ok (.ireturn, 1) := by decide +kernel
def f_Chart_makeLeast (x1 : Nat) (x2 : Nat) (I : MI) (J : MJ) (Q : Int32 → MI → MJ → Prop) : Prop :=
  f_Chart_explore_M x1 (I x1 2) (14 : Int32) I J (fun r8 I8 J8 => (if r8 = 0 then Q 0 I8 J8 else f_Chart_groupNodes I8 J8 (fun r17 I17 J17 => f_Chart_signsUsed I17 J17 (fun r24 I24 J24 => f_Chart_writeGroups x2 r24 I24 J24 (fun I27 J27 => Q 1 I27 J27)))))
set_option maxRecDepth 100000 in
set_option maxHeartbeats 4000000 in
theorem w_Chart_makeLeast_b0 {Γ : Ctx} {Q : Int32 → MI → MJ → Prop} {x1 : Nat} {x2 : Nat}  (X : Cx Γ cX0_makeLeast 3 RX0 5) (Y : Rt Γ (Pi Q) (Option.some Jvm.ClassFile.FieldType.boolean)) (hx1 : okM x1) (hx2 : okM x2)  {I : MI} {J : MJ} (h : f_Chart_makeLeast x1 x2 I J Q) : Wp Γ 3 0 [(0, .ref (ad Γ 2)), (1, .ref (ad Γ x1)), (2, .ref (ad Γ x2))] [] I J := by
  unfold f_Chart_makeLeast at h
  refine wp_aload_n X dX0_makeLeast_0 0 rfl ?_
  refine wp_aload_n X dX0_makeLeast_1 1 rfl ?_
  refine wp_aload_n X dX0_makeLeast_2 1 rfl ?_
  refine gf_X0_73 X hx1.1 dX0_makeLeast_3 ?_
  refine wp_bipush X dX0_makeLeast_6 bi_14 ?_
  refine cv_Chart_explore_M X dX0_makeLeast_8 ml_X0_76 hx1 h (Nat.le_of_ble_eq_true rfl) (by decide) (fun r8 I8 J8 h => ?_)
  refine wp_if_ne (tgt := 16) X dX0_makeLeast_11 (by decide) (fun hc => ?_) (fun hc => ?_)
  · have h := ite_f h hc
    refine wp_aload_n X dX0_makeLeast_16 0 rfl ?_
    refine cv_Chart_groupNodes X dX0_makeLeast_17 ml_X0_121  h (Nat.le_of_ble_eq_true rfl) (by decide) (fun r17 I17 J17 h => ?_)
    refine wp_pop X dX0_makeLeast_20 rfl ?_
    refine wp_aload_n X dX0_makeLeast_21 0 rfl ?_
    refine wp_aload_n X dX0_makeLeast_22 2 rfl ?_
    refine wp_aload_n X dX0_makeLeast_23 0 rfl ?_
    refine cv_Chart_signsUsed X dX0_makeLeast_24 ml_X0_124  h (Nat.le_of_ble_eq_true rfl) (by decide) (fun r24 I24 J24 h => ?_)
    refine cv_Chart_writeGroups X dX0_makeLeast_27 ml_X0_127 hx2 h (Nat.le_of_ble_eq_true rfl) (by decide) (fun I27 J27 h => ?_)
    refine wp_iconst X dX0_makeLeast_30 ic_1 ?_
    exact wp_zret X Y dX0_makeLeast_31 (by decide) ⟨_, rfl, h⟩
  · have h := ite_t h hc
    refine wp_iconst X dX0_makeLeast_14 ic_0 ?_
    exact wp_zret X Y dX0_makeLeast_15 (by decide) ⟨_, rfl, h⟩

theorem c_Chart_makeLeast {l : Launch} {g : GE} (hg : Inj g) {I : MI} {J : MJ} {Q : Int32 → MI → MJ → Prop} {x1 : Nat} {x2 : Nat} (hx1 : okM x1) (hx2 : okM x2) (h : f_Chart_makeLeast x1 x2 I J Q) : Cm l g yX0_makeLeast cX0_makeLeast 3 (Option.some Jvm.ClassFile.FieldType.boolean) 5 [.ref (g.1 2), .ref (g.1 x1), .ref (g.1 x2)] I J (Pi Q) := by
  refine Cm.of (As := fun ad => [.ref (ad 2), .ref (ad x1), .ref (ad x2)]) hg pn_X0 (Nat.le_of_ble_eq_true rfl) ?_
  exact (fun Γ _ _ X Y => w_Chart_makeLeast_b0 X Y hx1 hx2 h)
theorem cv_Chart_makeLeast {Γ : Ctx} {cc : ByteArray} {nL d pc index : Nat} {own : String} {L : List (Nat × Value)} {rest : List Value} {I : MI} {J : MJ} {Q : Int32 → MI → MJ → Prop} {x1 : Nat} {x2 : Nat} (X : Cx Γ cc nL own d) (hd : decode cc pc = .ok (.invokevirtual index, 3)) (hlink : Cond.methodLink own index yX0_makeLeast ∈ TT) (hx1 : okM x1) (hx2 : okM x2) (h : f_Chart_makeLeast x1 x2 I J Q) (hrest : (rest.map fun v => v.category).sum ≤ 8) (hdd : 5 + 1 ≤ d) (kk : ∀ (r : Int32) (I' : MI) (J' : MJ), Q r I' J' → Wp Γ nL (pc + 3) L (.int r :: rest) I' J') : Wp Γ nL pc L (.ref (ad Γ x2) :: .ref (ad Γ x1) :: .ref (ad Γ 2) :: rest) I J :=
  wp_callV (As := [.ref (ad Γ x1), .ref (ad Γ x2)]) (rest := rest) (T := TX0) (N := 12) X hd hlink mv_X0_makeLeast sh_2 (by decide) rfl (c_Chart_makeLeast X.inj hx1 hx2 h) rfl rfl hrest hdd (fun v I' J' hv => by obtain ⟨r, rfl, hq⟩ := hv; exact kk r I' J' hq)
theorem dX3_become_0 : decode cX3_become 0 = .ok (.aload_n 0, 1) := by decide +kernel
theorem dX3_become_1 : decode cX3_become 1 = .ok (.aload_n 1, 1) := by decide +kernel
theorem dX3_become_2 : decode cX3_become 2 = .ok (.getfield 24, 3) := by decide +kernel
theorem dX3_become_5 : decode cX3_become 5 = .ok (.putfield 24, 3) := by decide +kernel
theorem dX3_become_8 : decode cX3_become 8 = .ok (.aload_n 0, 1) := by decide +kernel
theorem dX3_become_9 : decode cX3_become 9 = .ok (.aload_n 1, 1) := by decide +kernel
theorem dX3_become_10 : decode cX3_become 10 = .ok (.getfield 28, 3) := by decide +kernel
theorem dX3_become_13 : decode cX3_become 13 = .ok (.putfield 28, 3) := by decide +kernel
theorem dX3_become_16 : decode cX3_become 16 = .ok (.aload_n 0, 1) := by decide +kernel
theorem dX3_become_17 : decode cX3_become 17 = .ok (.aload_n 1, 1) := by decide +kernel
theorem dX3_become_18 : decode cX3_become 18 = .ok (.getfield 31, 3) := by decide +kernel
theorem dX3_become_21 : decode cX3_become 21 = .ok (.putfield 31, 3) := by decide +kernel
theorem dX3_become_24 : decode cX3_become 24 = .ok (.aload_n 1, 1) := by decide +kernel
theorem dX3_become_25 : decode cX3_become 25 = .ok (.getfield 9, 3) := by decide +kernel
theorem dX3_become_28 : decode cX3_become 28 = .ok (.iconst 0, 1) := by decide +kernel
theorem dX3_become_29 : decode cX3_become 29 = .ok (.aload_n 0, 1) := by decide +kernel
theorem dX3_become_30 : decode cX3_become 30 = .ok (.getfield 9, 3) := by decide +kernel
theorem dX3_become_33 : decode cX3_become 33 = .ok (.iconst 0, 1) := by decide +kernel
theorem dX3_become_34 : decode cX3_become 34 = .ok (.bipush 14, 2) := by decide +kernel
theorem dX3_become_36 : decode cX3_become 36 = .ok (.invokestatic 40, 3) := by decide +kernel
theorem dX3_become_39 : decode cX3_become 39 = .ok (.aload_n 1, 1) := by decide +kernel
theorem dX3_become_40 : decode cX3_become 40 = .ok (.getfield 15, 3) := by decide +kernel
theorem dX3_become_43 : decode cX3_become 43 = .ok (.iconst 0, 1) := by decide +kernel
theorem dX3_become_44 : decode cX3_become 44 = .ok (.aload_n 0, 1) := by decide +kernel
theorem dX3_become_45 : decode cX3_become 45 = .ok (.getfield 15, 3) := by decide +kernel
theorem dX3_become_48 : decode cX3_become 48 = .ok (.iconst 0, 1) := by decide +kernel
theorem dX3_become_49 : decode cX3_become 49 = .ok (.bipush 56, 2) := by decide +kernel
theorem dX3_become_51 : decode cX3_become 51 = .ok (.invokestatic 40, 3) := by decide +kernel
theorem dX3_become_54 : decode cX3_become 54 = .ok (.aload_n 1, 1) := by decide +kernel
theorem dX3_become_55 : decode cX3_become 55 = .ok (.getfield 18, 3) := by decide +kernel
theorem dX3_become_58 : decode cX3_become 58 = .ok (.iconst 0, 1) := by decide +kernel
theorem dX3_become_59 : decode cX3_become 59 = .ok (.aload_n 0, 1) := by decide +kernel
theorem dX3_become_60 : decode cX3_become 60 = .ok (.getfield 18, 3) := by decide +kernel
theorem dX3_become_63 : decode cX3_become 63 = .ok (.iconst 0, 1) := by decide +kernel
theorem dX3_become_64 : decode cX3_become 64 = .ok (.bipush 56, 2) := by decide +kernel
theorem dX3_become_66 : decode cX3_become 66 = .ok (.invokestatic 40, 3) := by decide +kernel
theorem dX3_become_69 : decode cX3_become 69 = .ok (.aload_n 1, 1) := by decide +kernel
theorem dX3_become_70 : decode cX3_become 70 = .ok (.getfield 21, 3) := by decide +kernel
theorem dX3_become_73 : decode cX3_become 73 = .ok (.iconst 0, 1) := by decide +kernel
theorem dX3_become_74 : decode cX3_become 74 = .ok (.aload_n 0, 1) := by decide +kernel
theorem dX3_become_75 : decode cX3_become 75 = .ok (.getfield 21, 3) := by decide +kernel
theorem dX3_become_78 : decode cX3_become 78 = .ok (.iconst 0, 1) := by decide +kernel
theorem dX3_become_79 : decode cX3_become 79 = .ok (.bipush 14, 2) := by decide +kernel
theorem dX3_become_81 : decode cX3_become 81 = .ok (.invokestatic 40, 3) := by decide +kernel
theorem dX3_become_84 : decode cX3_become 84 = .ok (.return_, 1) := by decide +kernel
def f_Machine_become (o : Nat) (x1 : Nat) (I : MI) (J : MJ) (Q : MI → MJ → Prop) : Prop :=
  ∀ I5 : MI, I5 = sI I o (upd (I o) 0 (I x1 0)) → ∀ I13 : MI, I13 = sI I5 o (upd (I5 o) 1 (I5 x1 1)) → ∀ I21 : MI, I21 = sI I13 o (upd (I13 o) 2 (I13 x1 2)) → (¬ (0 : Int32) < 0 ∧ ¬ (0 : Int32) < 0 ∧ ¬ (14 : Int32) < 0 ∧ (0 : Int32).toNatClampNeg + (14 : Int32).toNatClampNeg ≤ 14 ∧ (0 : Int32).toNatClampNeg + (14 : Int32).toNatClampNeg ≤ 14) ∧ ∀ I36 : MI, I36 = sI I21 (o + 1) (va_cpy (I21 (x1 + 1)) (I21 (o + 1)) (0 : Int32).toNatClampNeg (0 : Int32).toNatClampNeg (14 : Int32).toNatClampNeg) → (¬ (0 : Int32) < 0 ∧ ¬ (0 : Int32) < 0 ∧ ¬ (56 : Int32) < 0 ∧ (0 : Int32).toNatClampNeg + (56 : Int32).toNatClampNeg ≤ 56 ∧ (0 : Int32).toNatClampNeg + (56 : Int32).toNatClampNeg ≤ 56) ∧ ∀ I51 : MI, I51 = sI I36 (o + 2) (va_cpy (I36 (x1 + 2)) (I36 (o + 2)) (0 : Int32).toNatClampNeg (0 : Int32).toNatClampNeg (56 : Int32).toNatClampNeg) → (¬ (0 : Int32) < 0 ∧ ¬ (0 : Int32) < 0 ∧ ¬ (56 : Int32) < 0 ∧ (0 : Int32).toNatClampNeg + (56 : Int32).toNatClampNeg ≤ 56 ∧ (0 : Int32).toNatClampNeg + (56 : Int32).toNatClampNeg ≤ 56) ∧ ∀ I66 : MI, I66 = sI I51 (o + 3) (va_cpy (I51 (x1 + 3)) (I51 (o + 3)) (0 : Int32).toNatClampNeg (0 : Int32).toNatClampNeg (56 : Int32).toNatClampNeg) → (¬ (0 : Int32) < 0 ∧ ¬ (0 : Int32) < 0 ∧ ¬ (14 : Int32) < 0 ∧ (0 : Int32).toNatClampNeg + (14 : Int32).toNatClampNeg ≤ 14 ∧ (0 : Int32).toNatClampNeg + (14 : Int32).toNatClampNeg ≤ 14) ∧ ∀ I81 : MI, I81 = sI I66 (o + 4) (va_cpy (I66 (x1 + 4)) (I66 (o + 4)) (0 : Int32).toNatClampNeg (0 : Int32).toNatClampNeg (14 : Int32).toNatClampNeg) → Q I81 J
set_option maxRecDepth 100000 in
set_option maxHeartbeats 4000000 in
theorem w_Machine_become_b0 {Γ : Ctx} {Q : MI → MJ → Prop} {o : Nat} {x1 : Nat}  (X : Cx Γ cX3_become 2 RX3 1) (Y : Rt Γ (Pv Q) (Option.none : Option Jvm.ClassFile.FieldType)) (ho : okM o) (hx1 : okM x1)  {I : MI} {J : MJ} (h : f_Machine_become o x1 I J Q) : Wp Γ 2 0 [(0, .ref (ad Γ o)), (1, .ref (ad Γ x1))] [] I J := by
  unfold f_Machine_become at h
  refine wp_aload_n X dX3_become_0 0 rfl ?_
  refine wp_aload_n X dX3_become_1 1 rfl ?_
  refine gf_X3_24 X hx1.1 dX3_become_2 ?_
  refine pf_X3_24 X ho.1 dX3_become_5 (fun I5 eI5 => ?_)
  have h := h I5 eI5
  refine wp_aload_n X dX3_become_8 0 rfl ?_
  refine wp_aload_n X dX3_become_9 1 rfl ?_
  refine gf_X3_28 X hx1.1 dX3_become_10 ?_
  refine pf_X3_28 X ho.1 dX3_become_13 (fun I13 eI13 => ?_)
  have h := h I13 eI13
  refine wp_aload_n X dX3_become_16 0 rfl ?_
  refine wp_aload_n X dX3_become_17 1 rfl ?_
  refine gf_X3_31 X hx1.1 dX3_become_18 ?_
  refine pf_X3_31 X ho.1 dX3_become_21 (fun I21 eI21 => ?_)
  have h := h I21 eI21
  refine wp_aload_n X dX3_become_24 1 rfl ?_
  refine gf_X3_9 (o' := x1 + 1) X hx1.1 rfl dX3_become_25 ?_
  refine wp_iconst X dX3_become_28 ic_0 ?_
  refine wp_aload_n X dX3_become_29 0 rfl ?_
  refine gf_X3_9 (o' := o + 1) X ho.1 rfl dX3_become_30 ?_
  refine wp_iconst X dX3_become_33 ic_0 ?_
  refine wp_bipush X dX3_become_34 bi_14 ?_
  obtain ⟨hcp, h⟩ := h
  refine wp_copy X dX3_become_36 ml_X3_40 mw_copy (by decide) hx1.2.1 ho.2.1 hcp ?_
  refine wp_memI (fun I36 eI36 => ?_)
  have h := h I36 eI36
  refine wp_aload_n X dX3_become_39 1 rfl ?_
  refine gf_X3_15 (o' := x1 + 2) X hx1.1 rfl dX3_become_40 ?_
  refine wp_iconst X dX3_become_43 ic_0 ?_
  refine wp_aload_n X dX3_become_44 0 rfl ?_
  refine gf_X3_15 (o' := o + 2) X ho.1 rfl dX3_become_45 ?_
  refine wp_iconst X dX3_become_48 ic_0 ?_
  refine wp_bipush X dX3_become_49 bi_56 ?_
  obtain ⟨hcp, h⟩ := h
  refine wp_copy X dX3_become_51 ml_X3_40 mw_copy (by decide) hx1.2.2.1 ho.2.2.1 hcp ?_
  refine wp_memI (fun I51 eI51 => ?_)
  have h := h I51 eI51
  refine wp_aload_n X dX3_become_54 1 rfl ?_
  refine gf_X3_18 (o' := x1 + 3) X hx1.1 rfl dX3_become_55 ?_
  refine wp_iconst X dX3_become_58 ic_0 ?_
  refine wp_aload_n X dX3_become_59 0 rfl ?_
  refine gf_X3_18 (o' := o + 3) X ho.1 rfl dX3_become_60 ?_
  refine wp_iconst X dX3_become_63 ic_0 ?_
  refine wp_bipush X dX3_become_64 bi_56 ?_
  obtain ⟨hcp, h⟩ := h
  refine wp_copy X dX3_become_66 ml_X3_40 mw_copy (by decide) hx1.2.2.2.1 ho.2.2.2.1 hcp ?_
  refine wp_memI (fun I66 eI66 => ?_)
  have h := h I66 eI66
  refine wp_aload_n X dX3_become_69 1 rfl ?_
  refine gf_X3_21 (o' := x1 + 4) X hx1.1 rfl dX3_become_70 ?_
  refine wp_iconst X dX3_become_73 ic_0 ?_
  refine wp_aload_n X dX3_become_74 0 rfl ?_
  refine gf_X3_21 (o' := o + 4) X ho.1 rfl dX3_become_75 ?_
  refine wp_iconst X dX3_become_78 ic_0 ?_
  refine wp_bipush X dX3_become_79 bi_14 ?_
  obtain ⟨hcp, h⟩ := h
  refine wp_copy X dX3_become_81 ml_X3_40 mw_copy (by decide) hx1.2.2.2.2 ho.2.2.2.2 hcp ?_
  refine wp_memI (fun I81 eI81 => ?_)
  have h := h I81 eI81
  exact wp_vret X Y dX3_become_84 ⟨rfl, h⟩

theorem c_Machine_become {l : Launch} {g : GE} (hg : Inj g) {I : MI} {J : MJ} {Q : MI → MJ → Prop} {o : Nat} {x1 : Nat} (ho : okM o) (hx1 : okM x1) (h : f_Machine_become o x1 I J Q) : Cm l g yX3_become cX3_become 2 (Option.none : Option Jvm.ClassFile.FieldType) 1 [.ref (g.1 o), .ref (g.1 x1)] I J (Pv Q) := by
  refine Cm.of (As := fun ad => [.ref (ad o), .ref (ad x1)]) hg pn_X3 (Nat.le_of_ble_eq_true rfl) ?_
  exact (fun Γ _ _ X Y => w_Machine_become_b0 X Y ho hx1 h)
theorem cv_Machine_become {Γ : Ctx} {cc : ByteArray} {nL d pc index : Nat} {own : String} {L : List (Nat × Value)} {rest : List Value} {I : MI} {J : MJ} {Q : MI → MJ → Prop} {o : Nat} {x1 : Nat} (X : Cx Γ cc nL own d) (hd : decode cc pc = .ok (.invokevirtual index, 3)) (hlink : Cond.methodLink own index yX3_become ∈ TT) (ho : okM o) (hx1 : okM x1) (h : f_Machine_become o x1 I J Q) (hrest : (rest.map fun v => v.category).sum ≤ 8) (hdd : 1 + 1 ≤ d) (kk : ∀ (I' : MI) (J' : MJ), Q I' J' → Wp Γ nL (pc + 3) L rest I' J') : Wp Γ nL pc L (.ref (ad Γ x1) :: .ref (ad Γ o) :: rest) I J :=
  wp_callV (As := [.ref (ad Γ x1)]) (rest := rest) (T := TX3) (N := 7) X hd hlink mv_X3_become ho.1 (by decide) rfl (c_Machine_become X.inj ho hx1 h) rfl rfl hrest hdd (fun v I' J' hv => by obtain ⟨rfl, hq⟩ := hv; exact kk I' J' hq)
theorem dX4_layMachine_0 : decode cX4_layMachine 0 = .ok (.aload_n 0, 1) := by decide +kernel
theorem dX4_layMachine_1 : decode cX4_layMachine 1 = .ok (.getfield 18, 3) := by decide +kernel
theorem dX4_layMachine_4 : decode cX4_layMachine 4 = .ok (.aload_n 1, 1) := by decide +kernel
theorem dX4_layMachine_5 : decode cX4_layMachine 5 = .ok (.invokevirtual 26, 3) := by decide +kernel
theorem dX4_layMachine_8 : decode cX4_layMachine 8 = .ok (.aload_n 0, 1) := by decide +kernel
theorem dX4_layMachine_9 : decode cX4_layMachine 9 = .ok (.aload_n 1, 1) := by decide +kernel
theorem dX4_layMachine_10 : decode cX4_layMachine 10 = .ok (.getfield 30, 3) := by decide +kernel
theorem dX4_layMachine_13 : decode cX4_layMachine 13 = .ok (.putfield 9, 3) := by decide +kernel
theorem dX4_layMachine_16 : decode cX4_layMachine 16 = .ok (.return_, 1) := by decide +kernel
def f_Place_layMachine (o : Nat) (x1 : Nat) (I : MI) (J : MJ) (Q : MI → MJ → Prop) : Prop :=
  f_Machine_become (o + 1) x1 I J (fun I5 J5 => ∀ I13 : MI, I13 = sI I5 o (upd (I5 o) 0 (I5 x1 0)) → Q I13 J5)
set_option maxRecDepth 100000 in
set_option maxHeartbeats 4000000 in
theorem w_Place_layMachine_b0 {Γ : Ctx} {Q : MI → MJ → Prop} {o : Nat} {x1 : Nat}  (X : Cx Γ cX4_layMachine 2 RX4 2) (Y : Rt Γ (Pv Q) (Option.none : Option Jvm.ClassFile.FieldType)) (ho : okP o) (hx1 : okM x1)  {I : MI} {J : MJ} (h : f_Place_layMachine o x1 I J Q) : Wp Γ 2 0 [(0, .ref (ad Γ o)), (1, .ref (ad Γ x1))] [] I J := by
  unfold f_Place_layMachine at h
  refine wp_aload_n X dX4_layMachine_0 0 rfl ?_
  refine gf_X4_18 (o' := o + 1) X ho.1 rfl dX4_layMachine_1 ?_
  refine wp_aload_n X dX4_layMachine_4 1 rfl ?_
  refine cv_Machine_become X dX4_layMachine_5 ml_X4_26 ho.2.1 hx1 h (Nat.le_of_ble_eq_true rfl) (by decide) (fun I5 J5 h => ?_)
  refine wp_aload_n X dX4_layMachine_8 0 rfl ?_
  refine wp_aload_n X dX4_layMachine_9 1 rfl ?_
  refine gf_X4_30 X hx1.1 dX4_layMachine_10 ?_
  refine pf_X4_9 X ho.1 dX4_layMachine_13 (fun I13 eI13 => ?_)
  have h := h I13 eI13
  exact wp_vret X Y dX4_layMachine_16 ⟨rfl, h⟩

theorem c_Place_layMachine {l : Launch} {g : GE} (hg : Inj g) {I : MI} {J : MJ} {Q : MI → MJ → Prop} {o : Nat} {x1 : Nat} (ho : okP o) (hx1 : okM x1) (h : f_Place_layMachine o x1 I J Q) : Cm l g yX4_layMachine cX4_layMachine 2 (Option.none : Option Jvm.ClassFile.FieldType) 2 [.ref (g.1 o), .ref (g.1 x1)] I J (Pv Q) := by
  refine Cm.of (As := fun ad => [.ref (ad o), .ref (ad x1)]) hg pn_X4 (Nat.le_of_ble_eq_true rfl) ?_
  exact (fun Γ _ _ X Y => w_Place_layMachine_b0 X Y ho hx1 h)
theorem cv_Place_layMachine {Γ : Ctx} {cc : ByteArray} {nL d pc index : Nat} {own : String} {L : List (Nat × Value)} {rest : List Value} {I : MI} {J : MJ} {Q : MI → MJ → Prop} {o : Nat} {x1 : Nat} (X : Cx Γ cc nL own d) (hd : decode cc pc = .ok (.invokevirtual index, 3)) (hlink : Cond.methodLink own index yX4_layMachine ∈ TT) (ho : okP o) (hx1 : okM x1) (h : f_Place_layMachine o x1 I J Q) (hrest : (rest.map fun v => v.category).sum ≤ 8) (hdd : 2 + 1 ≤ d) (kk : ∀ (I' : MI) (J' : MJ), Q I' J' → Wp Γ nL (pc + 3) L rest I' J') : Wp Γ nL pc L (.ref (ad Γ x1) :: .ref (ad Γ o) :: rest) I J :=
  wp_callV (As := [.ref (ad Γ x1)]) (rest := rest) (T := TX4) (N := 7) X hd hlink mv_X4_layMachine ho.1 (by decide) rfl (c_Place_layMachine X.inj ho hx1 h) rfl rfl hrest hdd (fun v I' J' hv => by obtain ⟨rfl, hq⟩ := hv; exact kk I' J' hq)
theorem dX10_layMachine_0 : decode cX10_layMachine 0 = .ok (.aload_n 0, 1) := by decide +kernel
theorem dX10_layMachine_1 : decode cX10_layMachine 1 = .ok (.getfield 11, 3) := by decide +kernel
theorem dX10_layMachine_4 : decode cX10_layMachine 4 = .ok (.iload_n 2, 1) := by decide +kernel
theorem dX10_layMachine_5 : decode cX10_layMachine 5 = .ok (.aaload, 1) := by decide +kernel
theorem dX10_layMachine_6 : decode cX10_layMachine 6 = .ok (.aload_n 1, 1) := by decide +kernel
theorem dX10_layMachine_7 : decode cX10_layMachine 7 = .ok (.invokevirtual 310, 3) := by decide +kernel
theorem dX10_layMachine_10 : decode cX10_layMachine 10 = .ok (.aload_n 0, 1) := by decide +kernel
theorem dX10_layMachine_11 : decode cX10_layMachine 11 = .ok (.aload_n 1, 1) := by decide +kernel
theorem dX10_layMachine_12 : decode cX10_layMachine 12 = .ok (.getfield 107, 3) := by decide +kernel
theorem dX10_layMachine_15 : decode cX10_layMachine 15 = .ok (.invokevirtual 86, 3) := by decide +kernel
theorem dX10_layMachine_18 : decode cX10_layMachine 18 = .ok (.ireturn, 1) := by decide +kernel
def f_School_layMachine (x1 : Nat) (x2 : Int32) (I : MI) (J : MJ) (Q : Int32 → MI → MJ → Prop) : Prop :=
  vp_in x2 16 ∧ f_Place_layMachine (1 + 64 + 7 * x2.toNatClampNeg) x1 I J (fun I7 J7 => f_School_done (I7 x1 1) I7 J7 (fun r15 I15 J15 => Q r15 I15 J15))
set_option maxRecDepth 100000 in
set_option maxHeartbeats 4000000 in
theorem w_School_layMachine_b0 {Γ : Ctx} {Q : Int32 → MI → MJ → Prop} {x1 : Nat} {x2 : Int32}  (X : Cx Γ cX10_layMachine 3 RX10 3) (Y : Rt Γ (Pi Q) (Option.some Jvm.ClassFile.FieldType.int)) (hx1 : okM x1)  {I : MI} {J : MJ} (h : f_School_layMachine x1 x2 I J Q) : Wp Γ 3 0 [(0, .ref (ad Γ 0)), (1, .ref (ad Γ x1)), (2, .int x2)] [] I J := by
  unfold f_School_layMachine at h
  refine wp_aload_n X dX10_layMachine_0 0 rfl ?_
  refine gf_X10_11 (o' := 1) X sh_0 rfl dX10_layMachine_1 ?_
  refine wp_iload_n X dX10_layMachine_4 2 rfl ?_
  obtain ⟨hb5, h⟩ := h
  refine wp_aald X sh_1 hb5 dX10_layMachine_5 ?_
  refine wp_aload_n X dX10_layMachine_6 1 rfl ?_
  refine cv_Place_layMachine X dX10_layMachine_7 ml_X10_310 (okP_at hb5) hx1 h (Nat.le_of_ble_eq_true rfl) (by decide) (fun I7 J7 h => ?_)
  refine wp_aload_n X dX10_layMachine_10 0 rfl ?_
  refine wp_aload_n X dX10_layMachine_11 1 rfl ?_
  refine gf_X10_107 X hx1.1 dX10_layMachine_12 ?_
  refine cv_School_done X dX10_layMachine_15 ml_X10_86  h (Nat.le_of_ble_eq_true rfl) (by decide) (fun r15 I15 J15 h => ?_)
  exact wp_iret X Y dX10_layMachine_18 ⟨_, rfl, h⟩

theorem c_School_layMachine {l : Launch} {g : GE} (hg : Inj g) {I : MI} {J : MJ} {Q : Int32 → MI → MJ → Prop} {x1 : Nat} {x2 : Int32} (hx1 : okM x1) (h : f_School_layMachine x1 x2 I J Q) : Cm l g yX10_layMachine cX10_layMachine 3 (Option.some Jvm.ClassFile.FieldType.int) 3 [.ref (g.1 0), .ref (g.1 x1), .int x2] I J (Pi Q) := by
  refine Cm.of (As := fun ad => [.ref (ad 0), .ref (ad x1), .int x2]) hg pn_X10 (Nat.le_of_ble_eq_true rfl) ?_
  exact (fun Γ _ _ X Y => w_School_layMachine_b0 X Y hx1 h)
theorem cv_School_layMachine {Γ : Ctx} {cc : ByteArray} {nL d pc index : Nat} {own : String} {L : List (Nat × Value)} {rest : List Value} {I : MI} {J : MJ} {Q : Int32 → MI → MJ → Prop} {x1 : Nat} {x2 : Int32} (X : Cx Γ cc nL own d) (hd : decode cc pc = .ok (.invokevirtual index, 3)) (hlink : Cond.methodLink own index yX10_layMachine ∈ TT) (hx1 : okM x1) (h : f_School_layMachine x1 x2 I J Q) (hrest : (rest.map fun v => v.category).sum ≤ 8) (hdd : 3 + 1 ≤ d) (kk : ∀ (r : Int32) (I' : MI) (J' : MJ), Q r I' J' → Wp Γ nL (pc + 3) L (.int r :: rest) I' J') : Wp Γ nL pc L (.int x2 :: .ref (ad Γ x1) :: .ref (ad Γ 0) :: rest) I J :=
  wp_callV (As := [.ref (ad Γ x1), .int x2]) (rest := rest) (T := TX10) (N := 9) X hd hlink mv_X10_layMachine sh_0 (by decide) rfl (c_School_layMachine X.inj hx1 h) rfl rfl hrest hdd (fun v I' J' hv => by obtain ⟨r, rfl, hq⟩ := hv; exact kk r I' J' hq)
theorem dX10_least_0 : decode cX10_least 0 = .ok (.aload_n 0, 1) := by decide +kernel
theorem dX10_least_1 : decode cX10_least 1 = .ok (.iload_n 1, 1) := by decide +kernel
theorem dX10_least_2 : decode cX10_least 2 = .ok (.invokevirtual 100, 3) := by decide +kernel
theorem dX10_least_5 : decode cX10_least 5 = .ok (.istore_n 3, 1) := by decide +kernel
theorem dX10_least_6 : decode cX10_least 6 = .ok (.iload_n 3, 1) := by decide +kernel
theorem dX10_least_7 : decode cX10_least 7 = .ok (.ifCond .ne 8, 3) := by decide +kernel
theorem dX10_least_10 : decode cX10_least 10 = .ok (.iload_n 2, 1) := by decide +kernel
theorem dX10_least_11 : decode cX10_least 11 = .ok (.invokestatic 69, 3) := by decide +kernel
theorem dX10_least_14 : decode cX10_least 14 = .ok (.istore_n 3, 1) := by decide +kernel
theorem dX10_least_15 : decode cX10_least 15 = .ok (.iload_n 3, 1) := by decide +kernel
theorem dX10_least_16 : decode cX10_least 16 = .ok (.ifCond .ne 28, 3) := by decide +kernel
theorem dX10_least_19 : decode cX10_least 19 = .ok (.aload_n 0, 1) := by decide +kernel
theorem dX10_least_20 : decode cX10_least 20 = .ok (.getfield 18, 3) := by decide +kernel
theorem dX10_least_23 : decode cX10_least 23 = .ok (.aload_n 0, 1) := by decide +kernel
theorem dX10_least_24 : decode cX10_least 24 = .ok (.getfield 11, 3) := by decide +kernel
theorem dX10_least_27 : decode cX10_least 27 = .ok (.iload_n 1, 1) := by decide +kernel
theorem dX10_least_28 : decode cX10_least 28 = .ok (.aaload, 1) := by decide +kernel
theorem dX10_least_29 : decode cX10_least 29 = .ok (.getfield 76, 3) := by decide +kernel
theorem dX10_least_32 : decode cX10_least 32 = .ok (.aload_n 0, 1) := by decide +kernel
theorem dX10_least_33 : decode cX10_least 33 = .ok (.getfield 60, 3) := by decide +kernel
theorem dX10_least_36 : decode cX10_least 36 = .ok (.invokevirtual 205, 3) := by decide +kernel
theorem dX10_least_39 : decode cX10_least 39 = .ok (.ifCond .ne 5, 3) := by decide +kernel
theorem dX10_least_42 : decode cX10_least 42 = .ok (.iconst 5, 1) := by decide +kernel
theorem dX10_least_43 : decode cX10_least 43 = .ok (.istore_n 3, 1) := by decide +kernel
theorem dX10_least_44 : decode cX10_least 44 = .ok (.iload_n 3, 1) := by decide +kernel
theorem dX10_least_45 : decode cX10_least 45 = .ok (.ifCond .eq 9, 3) := by decide +kernel
theorem dX10_least_48 : decode cX10_least 48 = .ok (.aload_n 0, 1) := by decide +kernel
theorem dX10_least_49 : decode cX10_least 49 = .ok (.iload_n 3, 1) := by decide +kernel
theorem dX10_least_50 : decode cX10_least 50 = .ok (.invokevirtual 73, 3) := by decide +kernel
theorem dX10_least_53 : decode cX10_least 53 = .ok (.ireturn, 1) := by decide +kernel
theorem dX10_least_54 : decode cX10_least 54 = .ok (.aload_n 0, 1) := by decide +kernel
theorem dX10_least_55 : decode cX10_least 55 = .ok (.aload_n 0, 1) := by decide +kernel
theorem dX10_least_56 : decode cX10_least 56 = .ok (.getfield 60, 3) := by decide +kernel
theorem dX10_least_59 : decode cX10_least 59 = .ok (.iload_n 2, 1) := by decide +kernel
theorem dX10_least_60 : decode cX10_least 60 = .ok (.invokevirtual 209, 3) := by decide +kernel
theorem dX10_least_63 : decode cX10_least 63 = .ok (.ireturn, 1) := by decide +kernel
def f_School_least_b44 (x2 : Int32) (x3 : Int32) (Q : Int32 → MI → MJ → Prop) (I : MI) (J : MJ) : Prop :=
  (if x3 = 0 then f_School_layMachine 60 x2 I J (fun r60 I60 J60 => Q r60 I60 J60) else f_School_refuse x3 I J (fun r50 I50 J50 => Q r50 I50 J50))
def f_School_least_b15 (x1 : Int32) (x2 : Int32) (x3 : Int32) (Q : Int32 → MI → MJ → Prop) (I : MI) (J : MJ) : Prop :=
  (if x3 = 0 then vp_in x1 16 ∧ f_Chart_makeLeast (1 + 64 + 7 * x1.toNatClampNeg + 1) 60 I J (fun r36 I36 J36 => (if r36 = 0 then f_School_least_b44 x2 5 Q I36 J36 else f_School_least_b44 x2 x3 Q I36 J36)) else f_School_least_b44 x2 x3 Q I J)
def f_School_least (x1 : Int32) (x2 : Int32) (I : MI) (J : MJ) (Q : Int32 → MI → MJ → Prop) : Prop :=
  f_School_machineFault x1 I J (fun r2 I2 J2 => (if r2 = 0 then f_School_placeFault x2 I2 J2 (fun r11 I11 J11 => f_School_least_b15 x1 x2 r11 Q I11 J11) else f_School_least_b15 x1 x2 r2 Q I2 J2))
set_option maxRecDepth 100000 in
set_option maxHeartbeats 4000000 in
theorem w_School_least_b44 {Γ : Ctx} {Q : Int32 → MI → MJ → Prop} {x2 : Int32} {x3 : Int32}  (X : Cx Γ cX10_least 4 RX10 6) (Y : Rt Γ (Pi Q) (Option.some Jvm.ClassFile.FieldType.int))   {I : MI} {J : MJ} (h : f_School_least_b44 x2 x3 Q I J) : Wp Γ 4 44 [(0, .ref (ad Γ 0)), (2, .int x2), (3, .int x3)] [] I J := by
  unfold f_School_least_b44 at h
  refine wp_iload_n X dX10_least_44 2 rfl ?_
  refine wp_if_eq (tgt := 54) X dX10_least_45 (by decide) (fun hc => ?_) (fun hc => ?_)
  · have h := ite_t h hc
    refine wp_aload_n X dX10_least_54 0 rfl ?_
    refine wp_aload_n X dX10_least_55 0 rfl ?_
    refine gf_X10_60 (o' := 60) X sh_0 rfl dX10_least_56 ?_
    refine wp_iload_n X dX10_least_59 1 rfl ?_
    refine cv_School_layMachine X dX10_least_60 ml_X10_209 okM_60 h (Nat.le_of_ble_eq_true rfl) (by decide) (fun r60 I60 J60 h => ?_)
    exact wp_iret X Y dX10_least_63 ⟨_, rfl, h⟩
  · have h := ite_f h hc
    refine wp_aload_n X dX10_least_48 0 rfl ?_
    refine wp_iload_n X dX10_least_49 2 rfl ?_
    refine cv_School_refuse X dX10_least_50 ml_X10_73  h (Nat.le_of_ble_eq_true rfl) (by decide) (fun r50 I50 J50 h => ?_)
    exact wp_iret X Y dX10_least_53 ⟨_, rfl, h⟩

set_option maxRecDepth 100000 in
set_option maxHeartbeats 4000000 in
theorem w_School_least_b15 {Γ : Ctx} {Q : Int32 → MI → MJ → Prop} {x1 : Int32} {x2 : Int32} {x3 : Int32}  (X : Cx Γ cX10_least 4 RX10 6) (Y : Rt Γ (Pi Q) (Option.some Jvm.ClassFile.FieldType.int))   {I : MI} {J : MJ} (h : f_School_least_b15 x1 x2 x3 Q I J) : Wp Γ 4 15 [(0, .ref (ad Γ 0)), (1, .int x1), (2, .int x2), (3, .int x3)] [] I J := by
  unfold f_School_least_b15 at h
  refine wp_iload_n X dX10_least_15 3 rfl ?_
  refine wp_if_ne (tgt := 44) X dX10_least_16 (by decide) (fun hc => ?_) (fun hc => ?_)
  · have h := ite_f h hc
    refine wp_sub X [0, 2, 3] rfl ?_
    exact w_School_least_b44 X Y  h
  · have h := ite_t h hc
    refine wp_aload_n X dX10_least_19 0 rfl ?_
    refine gf_X10_18 (o' := 2) X sh_0 rfl dX10_least_20 ?_
    refine wp_aload_n X dX10_least_23 0 rfl ?_
    refine gf_X10_11 (o' := 1) X sh_0 rfl dX10_least_24 ?_
    refine wp_iload_n X dX10_least_27 1 rfl ?_
    obtain ⟨hb28, h⟩ := h
    refine wp_aald X sh_1 hb28 dX10_least_28 ?_
    refine gf_X10_76 (o' := 1 + 64 + 7 * x1.toNatClampNeg + 1) X ((okP_at hb28).1) rfl dX10_least_29 ?_
    refine wp_aload_n X dX10_least_32 0 rfl ?_
    refine gf_X10_60 (o' := 60) X sh_0 rfl dX10_least_33 ?_
    refine cv_Chart_makeLeast X dX10_least_36 ml_X10_205 ((okP_at hb28).2.1) okM_60 h (Nat.le_of_ble_eq_true rfl) (by decide) (fun r36 I36 J36 h => ?_)
    refine wp_if_ne (tgt := 44) X dX10_least_39 (by decide) (fun hc => ?_) (fun hc => ?_)
    · have h := ite_f h hc
      refine wp_sub X [0, 2, 3] rfl ?_
      exact w_School_least_b44 X Y  h
    · have h := ite_t h hc
      refine wp_iconst X dX10_least_42 ic_5 ?_
      refine wp_istore_n (L' := [(3, .int 5), (0, .ref (ad Γ 0)), (1, .int x1), (2, .int x2)]) X dX10_least_43 rfl (by decide) rfl ?_
      refine wp_sub X [1, 3, 0] rfl ?_
      exact w_School_least_b44 X Y  h

set_option maxRecDepth 100000 in
set_option maxHeartbeats 4000000 in
theorem w_School_least_b0 {Γ : Ctx} {Q : Int32 → MI → MJ → Prop} {x1 : Int32} {x2 : Int32}  (X : Cx Γ cX10_least 4 RX10 6) (Y : Rt Γ (Pi Q) (Option.some Jvm.ClassFile.FieldType.int))   {I : MI} {J : MJ} (h : f_School_least x1 x2 I J Q) : Wp Γ 4 0 [(0, .ref (ad Γ 0)), (1, .int x1), (2, .int x2)] [] I J := by
  unfold f_School_least at h
  refine wp_aload_n X dX10_least_0 0 rfl ?_
  refine wp_iload_n X dX10_least_1 1 rfl ?_
  refine cv_School_machineFault X dX10_least_2 ml_X10_100  h (Nat.le_of_ble_eq_true rfl) (by decide) (fun r2 I2 J2 h => ?_)
  refine wp_istore_n (L' := [(3, .int r2), (0, .ref (ad Γ 0)), (1, .int x1), (2, .int x2)]) X dX10_least_5 rfl (by decide) rfl ?_
  refine wp_iload_n X dX10_least_6 0 rfl ?_
  refine wp_if_ne (tgt := 15) X dX10_least_7 (by decide) (fun hc => ?_) (fun hc => ?_)
  · have h := ite_f h hc
    refine wp_sub X [1, 2, 3, 0] rfl ?_
    exact w_School_least_b15 X Y  h
  · have h := ite_t h hc
    refine wp_iload_n X dX10_least_10 3 rfl ?_
    refine cs_School_placeFault X dX10_least_11 ml_X10_69  h (Nat.le_of_ble_eq_true rfl) (by decide) (fun r11 I11 J11 h => ?_)
    refine wp_istore_n (L' := [(3, .int r11), (0, .ref (ad Γ 0)), (1, .int x1), (2, .int x2)]) X dX10_least_14 rfl (by decide) rfl ?_
    refine wp_sub X [1, 2, 3, 0] rfl ?_
    exact w_School_least_b15 X Y  h

theorem c_School_least {l : Launch} {g : GE} (hg : Inj g) {I : MI} {J : MJ} {Q : Int32 → MI → MJ → Prop} {x1 : Int32} {x2 : Int32}  (h : f_School_least x1 x2 I J Q) : Cm l g yX10_least cX10_least 4 (Option.some Jvm.ClassFile.FieldType.int) 6 [.ref (g.1 0), .int x1, .int x2] I J (Pi Q) := by
  refine Cm.of (As := fun ad => [.ref (ad 0), .int x1, .int x2]) hg pn_X10 (Nat.le_of_ble_eq_true rfl) ?_
  exact (fun Γ _ _ X Y => w_School_least_b0 X Y  h)
theorem cv_School_least {Γ : Ctx} {cc : ByteArray} {nL d pc index : Nat} {own : String} {L : List (Nat × Value)} {rest : List Value} {I : MI} {J : MJ} {Q : Int32 → MI → MJ → Prop} {x1 : Int32} {x2 : Int32} (X : Cx Γ cc nL own d) (hd : decode cc pc = .ok (.invokevirtual index, 3)) (hlink : Cond.methodLink own index yX10_least ∈ TT)  (h : f_School_least x1 x2 I J Q) (hrest : (rest.map fun v => v.category).sum ≤ 8) (hdd : 6 + 1 ≤ d) (kk : ∀ (r : Int32) (I' : MI) (J' : MJ), Q r I' J' → Wp Γ nL (pc + 3) L (.int r :: rest) I' J') : Wp Γ nL pc L (.int x2 :: .int x1 :: .ref (ad Γ 0) :: rest) I J :=
  wp_callV (As := [.int x1, .int x2]) (rest := rest) (T := TX10) (N := 9) X hd hlink mv_X10_least sh_0 (by decide) rfl (c_School_least X.inj  h) rfl rfl hrest hdd (fun v I' J' hv => by obtain ⟨r, rfl, hq⟩ := hv; exact kk r I' J' hq)
theorem dX1_yesStates_0 : decode cX1_yesStates 0 = .ok (.iconst 0, 1) := by decide +kernel
theorem dX1_yesStates_1 : decode cX1_yesStates 1 = .ok (.istore_n 1, 1) := by decide +kernel
theorem dX1_yesStates_2 : decode cX1_yesStates 2 = .ok (.iconst 0, 1) := by decide +kernel
theorem dX1_yesStates_3 : decode cX1_yesStates 3 = .ok (.istore_n 2, 1) := by decide +kernel
theorem dX1_yesStates_4 : decode cX1_yesStates 4 = .ok (.iload_n 2, 1) := by decide +kernel
theorem dX1_yesStates_5 : decode cX1_yesStates 5 = .ok (.aload_n 0, 1) := by decide +kernel
theorem dX1_yesStates_6 : decode cX1_yesStates 6 = .ok (.getfield 35, 3) := by decide +kernel
theorem dX1_yesStates_9 : decode cX1_yesStates 9 = .ok (.if_icmp .ge 25, 3) := by decide +kernel
theorem dX1_yesStates_12 : decode cX1_yesStates 12 = .ok (.aload_n 0, 1) := by decide +kernel
theorem dX1_yesStates_13 : decode cX1_yesStates 13 = .ok (.getfield 38, 3) := by decide +kernel
theorem dX1_yesStates_16 : decode cX1_yesStates 16 = .ok (.iload_n 2, 1) := by decide +kernel
theorem dX1_yesStates_17 : decode cX1_yesStates 17 = .ok (.iaload, 1) := by decide +kernel
theorem dX1_yesStates_18 : decode cX1_yesStates 18 = .ok (.iconst 1, 1) := by decide +kernel
theorem dX1_yesStates_19 : decode cX1_yesStates 19 = .ok (.if_icmp .ne 9, 3) := by decide +kernel
theorem dX1_yesStates_22 : decode cX1_yesStates 22 = .ok (.iload_n 1, 1) := by decide +kernel
theorem dX1_yesStates_23 : decode cX1_yesStates 23 = .ok (.iconst 1, 1) := by decide +kernel
theorem dX1_yesStates_24 : decode cX1_yesStates 24 = .ok (.iload_n 2, 1) := by decide +kernel
theorem dX1_yesStates_25 : decode cX1_yesStates 25 = .ok (.ishl, 1) := by decide +kernel
theorem dX1_yesStates_26 : decode cX1_yesStates 26 = .ok (.ior, 1) := by decide +kernel
theorem dX1_yesStates_27 : decode cX1_yesStates 27 = .ok (.istore_n 1, 1) := by decide +kernel
theorem dX1_yesStates_28 : decode cX1_yesStates 28 = .ok (.iinc 2 1, 3) := by decide +kernel
theorem dX1_yesStates_31 : decode cX1_yesStates 31 = .ok (.goto (-27), 3) := by decide +kernel
theorem dX1_yesStates_34 : decode cX1_yesStates 34 = .ok (.iload_n 1, 1) := by decide +kernel
theorem dX1_yesStates_35 : decode cX1_yesStates 35 = .ok (.ireturn, 1) := by decide +kernel
def f_Joining_yesStates_b28 (x1 : Int32) (x2 : Int32) (kh : Int32 → Int32 → MI → MJ → Prop) (I : MI) (J : MJ) : Prop :=
  ∀ t28 : Int32, t28 = x2 + 1 → kh x1 t28 I J
def f_Joining_yesStates_L4 (x0 : Nat) (k34 : Int32 → MI → MJ → Prop) : Nat → Int32 → Int32 → MI → MJ → Prop
  | 0, _, _, _, _ => False
  | nf4 + 1, x1, x2, I, J =>
  (if (I x0 1) ≤ x2 then k34 x1 I J else vp_in x2 14 ∧ (if (I (x0 + 4) x2.toNatClampNeg) = 1 then ∀ t27 : Int32, t27 = x1 ||| (1 <<< (x2 &&& 31)) → f_Joining_yesStates_b28 t27 x2 (f_Joining_yesStates_L4 x0 k34 nf4) I J else f_Joining_yesStates_b28 x1 x2 (f_Joining_yesStates_L4 x0 k34 nf4) I J))
def f_Joining_yesStates (x0 : Nat) (I : MI) (J : MJ) (Q : Int32 → MI → MJ → Prop) : Prop :=
  ∃ n, f_Joining_yesStates_L4 x0 (fun (z34_x1 : Int32) (I : MI) (J : MJ) => Q z34_x1 I J) n 0 0 I J
set_option maxRecDepth 100000 in
set_option maxHeartbeats 4000000 in
theorem w_Joining_yesStates_b28 {Γ : Ctx} {Q : Int32 → MI → MJ → Prop} {x0 : Nat} {x1 : Int32} {x2 : Int32} {kh : Int32 → Int32 → MI → MJ → Prop} (X : Cx Γ cX1_yesStates 3 RX1 0) (Y : Rt Γ (Pi Q) (Option.some Jvm.ClassFile.FieldType.int)) (hx0 : okM x0) (hkh : ∀ (x1 : Int32) (x2 : Int32) (I : MI) (J : MJ), kh x1 x2 I J → Wp Γ 3 4 [(0, .ref (ad Γ x0)), (1, .int x1), (2, .int x2)] [] I J) {I : MI} {J : MJ} (h : f_Joining_yesStates_b28 x1 x2 kh I J) : Wp Γ 3 28 [(0, .ref (ad Γ x0)), (1, .int x1), (2, .int x2)] [] I J := by
  unfold f_Joining_yesStates_b28 at h
  obtain ⟨t28, et28⟩ : ∃ y : Int32, y = x2 + 1 := ⟨_, rfl⟩
  have h := h t28 et28
  refine wp_iinc (L' := [(2, .int t28), (0, .ref (ad Γ x0)), (1, .int x1)]) X dX1_yesStates_28 2 rfl (ii_1 et28) (by decide) rfl ?_
  refine wp_goto (tgt := 4) X dX1_yesStates_31 (by decide) ?_
  refine wp_sub X [1, 2, 0] rfl ?_
  exact hkh _ _ _ _ h

set_option maxRecDepth 100000 in
set_option maxHeartbeats 4000000 in
theorem w_Joining_yesStates_L4 {Γ : Ctx} {Q : Int32 → MI → MJ → Prop} {x0 : Nat} {k34 : Int32 → MI → MJ → Prop} (X : Cx Γ cX1_yesStates 3 RX1 0) (Y : Rt Γ (Pi Q) (Option.some Jvm.ClassFile.FieldType.int)) (hx0 : okM x0) (hk34 : ∀ (x1 : Int32) (I : MI) (J : MJ), k34 x1 I J → Wp Γ 3 34 [(1, .int x1)] [] I J) : ∀ (n : Nat) (x1 : Int32) (x2 : Int32) (I : MI) (J : MJ), f_Joining_yesStates_L4 x0 k34 n x1 x2 I J → Wp Γ 3 4 [(0, .ref (ad Γ x0)), (1, .int x1), (2, .int x2)] [] I J := by
  intro n
  induction n with
  | zero => intro x1 x2 I J h; exact absurd h (by simp [f_Joining_yesStates_L4])
  | succ n ih =>
  intro x1 x2 I J h
  unfold f_Joining_yesStates_L4 at h
  refine wp_iload_n X dX1_yesStates_4 2 rfl ?_
  refine wp_aload_n X dX1_yesStates_5 0 rfl ?_
  refine gf_X1_35 X hx0.1 dX1_yesStates_6 ?_
  refine wp_icmp_ge (tgt := 34) X dX1_yesStates_9 (by decide) (fun hc => ?_) (fun hc => ?_)
  · have h := ite_t h hc
    refine wp_sub X [1] rfl ?_
    exact hk34 _ _ _ h
  · have h := ite_f h hc
    refine wp_aload_n X dX1_yesStates_12 0 rfl ?_
    refine gf_X1_38 (o' := x0 + 4) X hx0.1 rfl dX1_yesStates_13 ?_
    refine wp_iload_n X dX1_yesStates_16 2 rfl ?_
    obtain ⟨hb17, h⟩ := h
    refine wp_iald X hx0.2.2.2.2 hb17 dX1_yesStates_17 ?_
    refine wp_iconst X dX1_yesStates_18 ic_1 ?_
    refine wp_icmp_ne (tgt := 28) X dX1_yesStates_19 (by decide) (fun hc => ?_) (fun hc => ?_)
    · have h := ite_f h hc
      exact w_Joining_yesStates_b28 X Y hx0 ih h
    · have h := ite_t h hc
      refine wp_iload_n X dX1_yesStates_22 1 rfl ?_
      refine wp_iconst X dX1_yesStates_23 ic_1 ?_
      refine wp_iload_n X dX1_yesStates_24 2 rfl ?_
      refine wp_ishl X dX1_yesStates_25 ?_
      refine wp_ior X dX1_yesStates_26 ?_
      refine wp_topi (fun t27 et27 => ?_)
      have h := h t27 et27
      refine wp_istore_n (L' := [(1, .int t27), (0, .ref (ad Γ x0)), (2, .int x2)]) X dX1_yesStates_27 rfl (by decide) rfl ?_
      refine wp_sub X [1, 0, 2] rfl ?_
      exact w_Joining_yesStates_b28 X Y hx0 ih h

set_option maxRecDepth 100000 in
set_option maxHeartbeats 4000000 in
theorem w_Joining_yesStates_b0 {Γ : Ctx} {Q : Int32 → MI → MJ → Prop} {x0 : Nat}  (X : Cx Γ cX1_yesStates 3 RX1 0) (Y : Rt Γ (Pi Q) (Option.some Jvm.ClassFile.FieldType.int)) (hx0 : okM x0)  {I : MI} {J : MJ} (h : f_Joining_yesStates x0 I J Q) : Wp Γ 3 0 [(0, .ref (ad Γ x0))] [] I J := by
  unfold f_Joining_yesStates at h
  refine wp_iconst X dX1_yesStates_0 ic_0 ?_
  refine wp_istore_n (L' := [(1, .int 0), (0, .ref (ad Γ x0))]) X dX1_yesStates_1 rfl (by decide) rfl ?_
  refine wp_iconst X dX1_yesStates_2 ic_0 ?_
  refine wp_istore_n (L' := [(2, .int 0), (1, .int 0), (0, .ref (ad Γ x0))]) X dX1_yesStates_3 rfl (by decide) rfl ?_
  obtain ⟨n, h⟩ := h
  refine wp_sub X [2, 1, 0] rfl ?_
  refine w_Joining_yesStates_L4 X Y hx0 ?_ n _ _ _ _ h
  · intro z34_x1 I J h
    refine wp_iload_n X dX1_yesStates_34 0 rfl ?_
    exact wp_iret X Y dX1_yesStates_35 ⟨_, rfl, h⟩

theorem c_Joining_yesStates {l : Launch} {g : GE} (hg : Inj g) {I : MI} {J : MJ} {Q : Int32 → MI → MJ → Prop} {x0 : Nat} (hx0 : okM x0) (h : f_Joining_yesStates x0 I J Q) : Cm l g yX1_yesStates cX1_yesStates 3 (Option.some Jvm.ClassFile.FieldType.int) 0 [.ref (g.1 x0)] I J (Pi Q) := by
  refine Cm.of (As := fun ad => [.ref (ad x0)]) hg pn_X1 (Nat.le_of_ble_eq_true rfl) ?_
  exact (fun Γ _ _ X Y => w_Joining_yesStates_b0 X Y hx0 h)
theorem cs_Joining_yesStates {Γ : Ctx} {cc : ByteArray} {nL d pc index : Nat} {own : String} {L : List (Nat × Value)} {rest : List Value} {I : MI} {J : MJ} {Q : Int32 → MI → MJ → Prop} {x0 : Nat} (X : Cx Γ cc nL own d) (hd : decode cc pc = .ok (.invokestatic index, 3)) (hlink : Cond.methodLink own index yX1_yesStates ∈ TT) (hx0 : okM x0) (h : f_Joining_yesStates x0 I J Q) (hrest : (rest.map fun v => v.category).sum ≤ 8) (hdd : 0 + 1 ≤ d) (kk : ∀ (r : Int32) (I' : MI) (J' : MJ), Q r I' J' → Wp Γ nL (pc + 3) L (.int r :: rest) I' J') : Wp Γ nL pc L (.ref (ad Γ x0) :: rest) I J :=
  wp_callS (As := [.ref (ad Γ x0)]) (rest := rest) X hd hlink mv_X1_yesStates (c_Joining_yesStates X.inj hx0 h) rfl rfl hrest hdd (fun v I' J' hv => by obtain ⟨r, rfl, hq⟩ := hv; exact kk r I' J' hq)
theorem dX1_begin_0 : decode cX1_begin 0 = .ok (.aload_n 0, 1) := by decide +kernel
theorem dX1_begin_1 : decode cX1_begin 1 = .ok (.iload_n 1, 1) := by decide +kernel
theorem dX1_begin_2 : decode cX1_begin 2 = .ok (.putfield 21, 3) := by decide +kernel
theorem dX1_begin_5 : decode cX1_begin 5 = .ok (.aload_n 0, 1) := by decide +kernel
theorem dX1_begin_6 : decode cX1_begin 6 = .ok (.aload_n 0, 1) := by decide +kernel
theorem dX1_begin_7 : decode cX1_begin 7 = .ok (.getfield 12, 3) := by decide +kernel
theorem dX1_begin_10 : decode cX1_begin 10 = .ok (.invokestatic 25, 3) := by decide +kernel
theorem dX1_begin_13 : decode cX1_begin 13 = .ok (.putfield 29, 3) := by decide +kernel
theorem dX1_begin_16 : decode cX1_begin 16 = .ok (.aload_n 0, 1) := by decide +kernel
theorem dX1_begin_17 : decode cX1_begin 17 = .ok (.aload_n 0, 1) := by decide +kernel
theorem dX1_begin_18 : decode cX1_begin 18 = .ok (.getfield 18, 3) := by decide +kernel
theorem dX1_begin_21 : decode cX1_begin 21 = .ok (.invokestatic 25, 3) := by decide +kernel
theorem dX1_begin_24 : decode cX1_begin 24 = .ok (.putfield 32, 3) := by decide +kernel
theorem dX1_begin_27 : decode cX1_begin 27 = .ok (.return_, 1) := by decide +kernel
def f_Joining_begin (x1 : Int32) (I : MI) (J : MJ) (Q : MI → MJ → Prop) : Prop :=
  ∀ I2 : MI, I2 = sI I 12 (upd (I 12) 2 x1) → f_Joining_yesStates 13 I2 J (fun r10 I10 J10 => ∀ I13 : MI, I13 = sI I10 12 (upd (I10 12) 3 r10) → f_Joining_yesStates 18 I13 J10 (fun r21 I21 J21 => ∀ I24 : MI, I24 = sI I21 12 (upd (I21 12) 4 r21) → Q I24 J21))
set_option maxRecDepth 100000 in
set_option maxHeartbeats 4000000 in
theorem w_Joining_begin_b0 {Γ : Ctx} {Q : MI → MJ → Prop} {x1 : Int32}  (X : Cx Γ cX1_begin 2 RX1 1) (Y : Rt Γ (Pv Q) (Option.none : Option Jvm.ClassFile.FieldType))   {I : MI} {J : MJ} (h : f_Joining_begin x1 I J Q) : Wp Γ 2 0 [(0, .ref (ad Γ 12)), (1, .int x1)] [] I J := by
  unfold f_Joining_begin at h
  refine wp_aload_n X dX1_begin_0 0 rfl ?_
  refine wp_iload_n X dX1_begin_1 1 rfl ?_
  refine pf_X1_21 X sh_12 dX1_begin_2 (fun I2 eI2 => ?_)
  have h := h I2 eI2
  refine wp_aload_n X dX1_begin_5 0 rfl ?_
  refine wp_aload_n X dX1_begin_6 0 rfl ?_
  refine gf_X1_12 (o' := 13) X sh_12 rfl dX1_begin_7 ?_
  refine cs_Joining_yesStates X dX1_begin_10 ml_X1_25 okM_13 h (Nat.le_of_ble_eq_true rfl) (by decide) (fun r10 I10 J10 h => ?_)
  refine pf_X1_29 X sh_12 dX1_begin_13 (fun I13 eI13 => ?_)
  have h := h I13 eI13
  refine wp_aload_n X dX1_begin_16 0 rfl ?_
  refine wp_aload_n X dX1_begin_17 0 rfl ?_
  refine gf_X1_18 (o' := 18) X sh_12 rfl dX1_begin_18 ?_
  refine cs_Joining_yesStates X dX1_begin_21 ml_X1_25 okM_18 h (Nat.le_of_ble_eq_true rfl) (by decide) (fun r21 I21 J21 h => ?_)
  refine pf_X1_32 X sh_12 dX1_begin_24 (fun I24 eI24 => ?_)
  have h := h I24 eI24
  exact wp_vret X Y dX1_begin_27 ⟨rfl, h⟩

theorem c_Joining_begin {l : Launch} {g : GE} (hg : Inj g) {I : MI} {J : MJ} {Q : MI → MJ → Prop} {x1 : Int32}  (h : f_Joining_begin x1 I J Q) : Cm l g yX1_begin cX1_begin 2 (Option.none : Option Jvm.ClassFile.FieldType) 1 [.ref (g.1 12), .int x1] I J (Pv Q) := by
  refine Cm.of (As := fun ad => [.ref (ad 12), .int x1]) hg pn_X1 (Nat.le_of_ble_eq_true rfl) ?_
  exact (fun Γ _ _ X Y => w_Joining_begin_b0 X Y  h)
theorem cv_Joining_begin {Γ : Ctx} {cc : ByteArray} {nL d pc index : Nat} {own : String} {L : List (Nat × Value)} {rest : List Value} {I : MI} {J : MJ} {Q : MI → MJ → Prop} {x1 : Int32} (X : Cx Γ cc nL own d) (hd : decode cc pc = .ok (.invokevirtual index, 3)) (hlink : Cond.methodLink own index yX1_begin ∈ TT)  (h : f_Joining_begin x1 I J Q) (hrest : (rest.map fun v => v.category).sum ≤ 8) (hdd : 1 + 1 ≤ d) (kk : ∀ (I' : MI) (J' : MJ), Q I' J' → Wp Γ nL (pc + 3) L rest I' J') : Wp Γ nL pc L (.int x1 :: .ref (ad Γ 12) :: rest) I J :=
  wp_callV (As := [.int x1]) (rest := rest) (T := TX1) (N := 5) X hd hlink mv_X1_begin sh_12 (by decide) rfl (c_Joining_begin X.inj  h) rfl rfl hrest hdd (fun v I' J' hv => by obtain ⟨rfl, hq⟩ := hv; exact kk I' J' hq)
theorem dX1_signs_0 : decode cX1_signs 0 = .ok (.aload_n 0, 1) := by decide +kernel
theorem dX1_signs_1 : decode cX1_signs 1 = .ok (.getfield 12, 3) := by decide +kernel
theorem dX1_signs_4 : decode cX1_signs 4 = .ok (.getfield 42, 3) := by decide +kernel
theorem dX1_signs_7 : decode cX1_signs 7 = .ok (.aload_n 0, 1) := by decide +kernel
theorem dX1_signs_8 : decode cX1_signs 8 = .ok (.getfield 18, 3) := by decide +kernel
theorem dX1_signs_11 : decode cX1_signs 11 = .ok (.getfield 42, 3) := by decide +kernel
theorem dX1_signs_14 : decode cX1_signs 14 = .ok (.invokestatic 45, 3) := by decide +kernel
theorem dX1_signs_17 : decode cX1_signs 17 = .ok (.ireturn, 1) := by decide +kernel
def f_Joining_signs (I : MI) (J : MJ) (Q : Int32 → MI → MJ → Prop) : Prop :=
  Q (if (I 13 2) < (I 18 2) then I 18 2 else I 13 2) I J
set_option maxRecDepth 100000 in
set_option maxHeartbeats 4000000 in
theorem w_Joining_signs_b0 {Γ : Ctx} {Q : Int32 → MI → MJ → Prop}   (X : Cx Γ cX1_signs 1 RX1 1) (Y : Rt Γ (Pi Q) (Option.some Jvm.ClassFile.FieldType.int))   {I : MI} {J : MJ} (h : f_Joining_signs  I J Q) : Wp Γ 1 0 [(0, .ref (ad Γ 12))] [] I J := by
  unfold f_Joining_signs at h
  refine wp_aload_n X dX1_signs_0 0 rfl ?_
  refine gf_X1_12 (o' := 13) X sh_12 rfl dX1_signs_1 ?_
  refine gf_X1_42 X okM_13.1 dX1_signs_4 ?_
  refine wp_aload_n X dX1_signs_7 0 rfl ?_
  refine gf_X1_18 (o' := 18) X sh_12 rfl dX1_signs_8 ?_
  refine gf_X1_42 X okM_18.1 dX1_signs_11 ?_
  refine wp_max X dX1_signs_14 ml_X1_45 mw_max (by decide) (Nat.le_of_ble_eq_true rfl) ?_
  exact wp_iret X Y dX1_signs_17 ⟨_, rfl, h⟩

theorem c_Joining_signs {l : Launch} {g : GE} (hg : Inj g) {I : MI} {J : MJ} {Q : Int32 → MI → MJ → Prop}   (h : f_Joining_signs  I J Q) : Cm l g yX1_signs cX1_signs 1 (Option.some Jvm.ClassFile.FieldType.int) 1 [.ref (g.1 12)] I J (Pi Q) := by
  refine Cm.of (As := fun ad => [.ref (ad 12)]) hg pn_X1 (Nat.le_of_ble_eq_true rfl) ?_
  exact (fun Γ _ _ X Y => w_Joining_signs_b0 X Y  h)
theorem cv_Joining_signs {Γ : Ctx} {cc : ByteArray} {nL d pc index : Nat} {own : String} {L : List (Nat × Value)} {rest : List Value} {I : MI} {J : MJ} {Q : Int32 → MI → MJ → Prop}  (X : Cx Γ cc nL own d) (hd : decode cc pc = .ok (.invokevirtual index, 3)) (hlink : Cond.methodLink own index yX1_signs ∈ TT)  (h : f_Joining_signs  I J Q) (hrest : (rest.map fun v => v.category).sum ≤ 8) (hdd : 1 + 1 ≤ d) (kk : ∀ (r : Int32) (I' : MI) (J' : MJ), Q r I' J' → Wp Γ nL (pc + 3) L (.int r :: rest) I' J') : Wp Γ nL pc L (.ref (ad Γ 12) :: rest) I J :=
  wp_callV (As := []) (rest := rest) (T := TX1) (N := 5) X hd hlink mv_X1_signs sh_12 (by decide) rfl (c_Joining_signs X.inj  h) rfl rfl hrest hdd (fun v I' J' hv => by obtain ⟨r, rfl, hq⟩ := hv; exact kk r I' J' hq)
