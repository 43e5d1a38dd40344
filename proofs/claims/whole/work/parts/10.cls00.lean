theorem dX10_isPlace_0 : decode cX10_isPlace 0 = .ok (.iload_n 0, 1) := by decide +kernel
theorem dX10_isPlace_1 : decode cX10_isPlace 1 = .ok (.ifCond .lt 13, 3) := by decide +kernel
theorem dX10_isPlace_4 : decode cX10_isPlace 4 = .ok (.iload_n 0, 1) := by decide +kernel
theorem dX10_isPlace_5 : decode cX10_isPlace 5 = .ok (.bipush 16, 2) := by decide +kernel
theorem dX10_isPlace_7 : decode cX10_isPlace 7 = .ok (.if_icmp .ge 7, 3) := by decide +kernel
theorem dX10_isPlace_10 : decode cX10_isPlace 10 = .ok (.iconst 1, 1) := by decide +kernel
theorem dX10_isPlace_11 : decode cX10_isPlace 11 = .ok (.goto 4, 3) := by decide +kernel
theorem dX10_isPlace_14 : decode cX10_isPlace 14 = .ok (.iconst 0, 1) := by decide +kernel
theorem dX10_isPlace_15 : decode cX10_isPlace 15 = .ok (.ireturn, 1) := by decide +kernel
def f_School_isPlace (x0 : Int32) (I : MI) (J : MJ) (Q : Int32 → MI → MJ → Prop) : Prop :=
  (if x0 < 0 then Q 0 I J else (if 16 ≤ x0 then Q 0 I J else Q 1 I J))
set_option maxRecDepth 100000 in
set_option maxHeartbeats 4000000 in
theorem w_School_isPlace_b0 {Γ : Ctx} {Q : Int32 → MI → MJ → Prop} {x0 : Int32}  (X : Cx Γ cX10_isPlace 1 RX10 0) (Y : Rt Γ (Pi Q) (Option.some Jvm.ClassFile.FieldType.boolean))   {I : MI} {J : MJ} (h : f_School_isPlace x0 I J Q) : Wp Γ 1 0 [(0, .int x0)] [] I J := by
  unfold f_School_isPlace at h
  refine wp_iload_n X dX10_isPlace_0 0 rfl ?_
  refine wp_if_lt (tgt := 14) X dX10_isPlace_1 (by decide) (fun hc => ?_) (fun hc => ?_)
  · have h := ite_t h hc
    refine wp_iconst X dX10_isPlace_14 ic_0 ?_
    exact wp_zret X Y dX10_isPlace_15 (by decide) ⟨_, rfl, h⟩
  · have h := ite_f h hc
    refine wp_iload_n X dX10_isPlace_4 0 rfl ?_
    refine wp_bipush X dX10_isPlace_5 bi_16 ?_
    refine wp_icmp_ge (tgt := 14) X dX10_isPlace_7 (by decide) (fun hc => ?_) (fun hc => ?_)
    · have h := ite_t h hc
      refine wp_iconst X dX10_isPlace_14 ic_0 ?_
      exact wp_zret X Y dX10_isPlace_15 (by decide) ⟨_, rfl, h⟩
    · have h := ite_f h hc
      refine wp_iconst X dX10_isPlace_10 ic_1 ?_
      refine wp_goto (tgt := 15) X dX10_isPlace_11 (by decide) ?_
      exact wp_zret X Y dX10_isPlace_15 (by decide) ⟨_, rfl, h⟩

theorem c_School_isPlace {l : Launch} {g : GE} (hg : Inj g) {I : MI} {J : MJ} {Q : Int32 → MI → MJ → Prop} {x0 : Int32}  (h : f_School_isPlace x0 I J Q) : Cm l g yX10_isPlace cX10_isPlace 1 (Option.some Jvm.ClassFile.FieldType.boolean) 0 [.int x0] I J (Pi Q) := by
  refine Cm.of (As := fun ad => [.int x0]) hg pn_X10 (Nat.le_of_ble_eq_true rfl) ?_
  exact (fun Γ _ _ X Y => w_School_isPlace_b0 X Y  h)
theorem cs_School_isPlace {Γ : Ctx} {cc : ByteArray} {nL d pc index : Nat} {own : String} {L : List (Nat × Value)} {rest : List Value} {I : MI} {J : MJ} {Q : Int32 → MI → MJ → Prop} {x0 : Int32} (X : Cx Γ cc nL own d) (hd : decode cc pc = .ok (.invokestatic index, 3)) (hlink : Cond.methodLink own index yX10_isPlace ∈ TT)  (h : f_School_isPlace x0 I J Q) (hrest : (rest.map fun v => v.category).sum ≤ 8) (hdd : 0 + 1 ≤ d) (kk : ∀ (r : Int32) (I' : MI) (J' : MJ), Q r I' J' → Wp Γ nL (pc + 3) L (.int r :: rest) I' J') : Wp Γ nL pc L (.int x0 :: rest) I J :=
  wp_callS (As := [.int x0]) (rest := rest) X hd hlink mv_X10_isPlace (c_School_isPlace X.inj  h) rfl rfl hrest hdd (fun v I' J' hv => by obtain ⟨r, rfl, hq⟩ := hv; exact kk r I' J' hq)
theorem dX10_placeFault_0 : decode cX10_placeFault 0 = .ok (.iload_n 0, 1) := by decide +kernel
theorem dX10_placeFault_1 : decode cX10_placeFault 1 = .ok (.invokestatic 150, 3) := by decide +kernel
theorem dX10_placeFault_4 : decode cX10_placeFault 4 = .ok (.ifCond .eq 7, 3) := by decide +kernel
theorem dX10_placeFault_7 : decode cX10_placeFault 7 = .ok (.iconst 0, 1) := by decide +kernel
theorem dX10_placeFault_8 : decode cX10_placeFault 8 = .ok (.goto 4, 3) := by decide +kernel
theorem dX10_placeFault_11 : decode cX10_placeFault 11 = .ok (.iconst 2, 1) := by decide +kernel
theorem dX10_placeFault_12 : decode cX10_placeFault 12 = .ok (.ireturn, 1) := by decide +kernel
def f_School_placeFault (x0 : Int32) (I : MI) (J : MJ) (Q : Int32 → MI → MJ → Prop) : Prop :=
  f_School_isPlace x0 I J (fun r1 I1 J1 => (if r1 = 0 then Q 2 I1 J1 else Q 0 I1 J1))
set_option maxRecDepth 100000 in
set_option maxHeartbeats 4000000 in
theorem w_School_placeFault_b0 {Γ : Ctx} {Q : Int32 → MI → MJ → Prop} {x0 : Int32}  (X : Cx Γ cX10_placeFault 1 RX10 1) (Y : Rt Γ (Pi Q) (Option.some Jvm.ClassFile.FieldType.int))   {I : MI} {J : MJ} (h : f_School_placeFault x0 I J Q) : Wp Γ 1 0 [(0, .int x0)] [] I J := by
  unfold f_School_placeFault at h
  refine wp_iload_n X dX10_placeFault_0 0 rfl ?_
  refine cs_School_isPlace X dX10_placeFault_1 ml_X10_150  h (Nat.le_of_ble_eq_true rfl) (by decide) (fun r1 I1 J1 h => ?_)
  refine wp_if_eq (tgt := 11) X dX10_placeFault_4 (by decide) (fun hc => ?_) (fun hc => ?_)
  · have h := ite_t h hc
    refine wp_iconst X dX10_placeFault_11 ic_2 ?_
    exact wp_iret X Y dX10_placeFault_12 ⟨_, rfl, h⟩
  · have h := ite_f h hc
    refine wp_iconst X dX10_placeFault_7 ic_0 ?_
    refine wp_goto (tgt := 12) X dX10_placeFault_8 (by decide) ?_
    exact wp_iret X Y dX10_placeFault_12 ⟨_, rfl, h⟩

theorem c_School_placeFault {l : Launch} {g : GE} (hg : Inj g) {I : MI} {J : MJ} {Q : Int32 → MI → MJ → Prop} {x0 : Int32}  (h : f_School_placeFault x0 I J Q) : Cm l g yX10_placeFault cX10_placeFault 1 (Option.some Jvm.ClassFile.FieldType.int) 1 [.int x0] I J (Pi Q) := by
  refine Cm.of (As := fun ad => [.int x0]) hg pn_X10 (Nat.le_of_ble_eq_true rfl) ?_
  exact (fun Γ _ _ X Y => w_School_placeFault_b0 X Y  h)
theorem cs_School_placeFault {Γ : Ctx} {cc : ByteArray} {nL d pc index : Nat} {own : String} {L : List (Nat × Value)} {rest : List Value} {I : MI} {J : MJ} {Q : Int32 → MI → MJ → Prop} {x0 : Int32} (X : Cx Γ cc nL own d) (hd : decode cc pc = .ok (.invokestatic index, 3)) (hlink : Cond.methodLink own index yX10_placeFault ∈ TT)  (h : f_School_placeFault x0 I J Q) (hrest : (rest.map fun v => v.category).sum ≤ 8) (hdd : 1 + 1 ≤ d) (kk : ∀ (r : Int32) (I' : MI) (J' : MJ), Q r I' J' → Wp Γ nL (pc + 3) L (.int r :: rest) I' J') : Wp Γ nL pc L (.int x0 :: rest) I J :=
  wp_callS (As := [.int x0]) (rest := rest) X hd hlink mv_X10_placeFault (c_School_placeFault X.inj  h) rfl rfl hrest hdd (fun v I' J' hv => by obtain ⟨r, rfl, hq⟩ := hv; exact kk r I' J' hq)
theorem dX10_refuse_0 : decode cX10_refuse 0 = .ok (.aload_n 0, 1) := by decide +kernel
theorem dX10_refuse_1 : decode cX10_refuse 1 = .ok (.iload_n 1, 1) := by decide +kernel
theorem dX10_refuse_2 : decode cX10_refuse 2 = .ok (.putfield 64, 3) := by decide +kernel
theorem dX10_refuse_5 : decode cX10_refuse 5 = .ok (.iconst (-1), 1) := by decide +kernel
theorem dX10_refuse_6 : decode cX10_refuse 6 = .ok (.ireturn, 1) := by decide +kernel
def f_School_refuse (x1 : Int32) (I : MI) (J : MJ) (Q : Int32 → MI → MJ → Prop) : Prop :=
  ∀ I2 : MI, I2 = sI I 0 (upd (I 0) 8 x1) → Q (-1) I2 J
set_option maxRecDepth 100000 in
set_option maxHeartbeats 4000000 in
theorem w_School_refuse_b0 {Γ : Ctx} {Q : Int32 → MI → MJ → Prop} {x1 : Int32}  (X : Cx Γ cX10_refuse 2 RX10 0) (Y : Rt Γ (Pi Q) (Option.some Jvm.ClassFile.FieldType.int))   {I : MI} {J : MJ} (h : f_School_refuse x1 I J Q) : Wp Γ 2 0 [(0, .ref (ad Γ 0)), (1, .int x1)] [] I J := by
  unfold f_School_refuse at h
  refine wp_aload_n X dX10_refuse_0 0 rfl ?_
  refine wp_iload_n X dX10_refuse_1 1 rfl ?_
  refine pf_X10_64 X sh_0 dX10_refuse_2 (fun I2 eI2 => ?_)
  have h := h I2 eI2
  refine wp_iconst X dX10_refuse_5 ic_m1 ?_
  exact wp_iret X Y dX10_refuse_6 ⟨_, rfl, h⟩

theorem c_School_refuse {l : Launch} {g : GE} (hg : Inj g) {I : MI} {J : MJ} {Q : Int32 → MI → MJ → Prop} {x1 : Int32}  (h : f_School_refuse x1 I J Q) : Cm l g yX10_refuse cX10_refuse 2 (Option.some Jvm.ClassFile.FieldType.int) 0 [.ref (g.1 0), .int x1] I J (Pi Q) := by
  refine Cm.of (As := fun ad => [.ref (ad 0), .int x1]) hg pn_X10 (Nat.le_of_ble_eq_true rfl) ?_
  exact (fun Γ _ _ X Y => w_School_refuse_b0 X Y  h)
theorem cv_School_refuse {Γ : Ctx} {cc : ByteArray} {nL d pc index : Nat} {own : String} {L : List (Nat × Value)} {rest : List Value} {I : MI} {J : MJ} {Q : Int32 → MI → MJ → Prop} {x1 : Int32} (X : Cx Γ cc nL own d) (hd : decode cc pc = .ok (.invokevirtual index, 3)) (hlink : Cond.methodLink own index yX10_refuse ∈ TT)  (h : f_School_refuse x1 I J Q) (hrest : (rest.map fun v => v.category).sum ≤ 8) (hdd : 0 + 1 ≤ d) (kk : ∀ (r : Int32) (I' : MI) (J' : MJ), Q r I' J' → Wp Γ nL (pc + 3) L (.int r :: rest) I' J') : Wp Γ nL pc L (.int x1 :: .ref (ad Γ 0) :: rest) I J :=
  wp_callV (As := [.int x1]) (rest := rest) (T := TX10) (N := 9) X hd hlink mv_X10_refuse sh_0 (by decide) rfl (c_School_refuse X.inj  h) rfl rfl hrest hdd (fun v I' J' hv => by obtain ⟨r, rfl, hq⟩ := hv; exact kk r I' J' hq)
theorem dJ7_fill_53178_0 : decode cJ7_fill_53178 0 = .ok (.iconst 0, 1) := by decide +kernel
theorem dJ7_fill_53178_1 : decode cJ7_fill_53178 1 = .ok (.istore_n 2, 1) := by decide +kernel
theorem dJ7_fill_53178_2 : decode cJ7_fill_53178 2 = .ok (.aload_n 0, 1) := by decide +kernel
theorem dJ7_fill_53178_3 : decode cJ7_fill_53178 3 = .ok (.arraylength, 1) := by decide +kernel
theorem dJ7_fill_53178_4 : decode cJ7_fill_53178 4 = .ok (.istore_n 3, 1) := by decide +kernel
theorem dJ7_fill_53178_5 : decode cJ7_fill_53178 5 = .ok (.iload_n 2, 1) := by decide +kernel
theorem dJ7_fill_53178_6 : decode cJ7_fill_53178 6 = .ok (.iload_n 3, 1) := by decide +kernel
theorem dJ7_fill_53178_7 : decode cJ7_fill_53178 7 = .ok (.if_icmp .ge 13, 3) := by decide +kernel
theorem dJ7_fill_53178_10 : decode cJ7_fill_53178 10 = .ok (.aload_n 0, 1) := by decide +kernel
theorem dJ7_fill_53178_11 : decode cJ7_fill_53178 11 = .ok (.iload_n 2, 1) := by decide +kernel
theorem dJ7_fill_53178_12 : decode cJ7_fill_53178 12 = .ok (.iload_n 1, 1) := by decide +kernel
theorem dJ7_fill_53178_13 : decode cJ7_fill_53178 13 = .ok (.iastore, 1) := by decide +kernel
theorem dJ7_fill_53178_14 : decode cJ7_fill_53178 14 = .ok (.iinc 2 1, 3) := by decide +kernel
theorem dJ7_fill_53178_17 : decode cJ7_fill_53178 17 = .ok (.goto (-12), 3) := by decide +kernel
theorem dJ7_fill_53178_20 : decode cJ7_fill_53178 20 = .ok (.return_, 1) := by decide +kernel
def f_Arrays_fill_L5 (x0 : Nat) (len0 : Nat) (x1 : Int32) (x3 : Int32) (k20 : MI → MJ → Prop) : Nat → Int32 → MI → MJ → Prop
  | 0, _, _, _ => False
  | nf5 + 1, x2, I, J =>
  (if x3 ≤ x2 then k20 I J else vp_in x2 len0 ∧ ∀ I13 : MI, I13 = sI I x0 (upd (I x0) x2.toNatClampNeg x1) → ∀ t14 : Int32, t14 = x2 + 1 → f_Arrays_fill_L5 x0 len0 x1 x3 k20 nf5 t14 I13 J)
def f_Arrays_fill (x0 : Nat) (len0 : Nat) (x1 : Int32) (I : MI) (J : MJ) (Q : MI → MJ → Prop) : Prop :=
  ∀ t4 : Int32, t4 = Int32.ofNat len0 → ∃ n, f_Arrays_fill_L5 x0 len0 x1 t4 (fun (I : MI) (J : MJ) => Q I J) n 0 I J
set_option maxRecDepth 100000 in
set_option maxHeartbeats 4000000 in
theorem w_Arrays_fill_L5 {Γ : Ctx} {Q : MI → MJ → Prop} {x0 : Nat} {len0 : Nat} {x1 : Int32} {x3 : Int32} {k20 : MI → MJ → Prop} (X : Cx Γ cJ7_fill_53178 4 RJ7 0) (Y : Rt Γ (Pv Q) (Option.none : Option Jvm.ClassFile.FieldType)) (hx0 : shp[x0]? = some (20, len0)) (hk20 : ∀ (I : MI) (J : MJ), k20 I J → Wp Γ 4 20 [] [] I J) : ∀ (n : Nat) (x2 : Int32) (I : MI) (J : MJ), f_Arrays_fill_L5 x0 len0 x1 x3 k20 n x2 I J → Wp Γ 4 5 [(0, .ref (ad Γ x0)), (1, .int x1), (2, .int x2), (3, .int x3)] [] I J := by
  intro n
  induction n with
  | zero => intro x2 I J h; exact absurd h (by simp [f_Arrays_fill_L5])
  | succ n ih =>
  intro x2 I J h
  unfold f_Arrays_fill_L5 at h
  refine wp_iload_n X dJ7_fill_53178_5 2 rfl ?_
  refine wp_iload_n X dJ7_fill_53178_6 3 rfl ?_
  refine wp_icmp_ge (tgt := 20) X dJ7_fill_53178_7 (by decide) (fun hc => ?_) (fun hc => ?_)
  · have h := ite_t h hc
    refine wp_sub X [] rfl ?_
    exact hk20 _ _ h
  · have h := ite_f h hc
    refine wp_aload_n X dJ7_fill_53178_10 0 rfl ?_
    refine wp_iload_n X dJ7_fill_53178_11 2 rfl ?_
    refine wp_iload_n X dJ7_fill_53178_12 1 rfl ?_
    obtain ⟨hb13, h⟩ := h
    refine wp_iast X hx0 hb13 dJ7_fill_53178_13 ?_
    refine wp_memI (fun I13 eI13 => ?_)
    have h := h I13 eI13
    obtain ⟨t14, et14⟩ : ∃ y : Int32, y = x2 + 1 := ⟨_, rfl⟩
    have h := h t14 et14
    refine wp_iinc (L' := [(2, .int t14), (0, .ref (ad Γ x0)), (1, .int x1), (3, .int x3)]) X dJ7_fill_53178_14 2 rfl (ii_1 et14) (by decide) rfl ?_
    refine wp_goto (tgt := 5) X dJ7_fill_53178_17 (by decide) ?_
    refine wp_sub X [1, 2, 0, 3] rfl ?_
    exact ih _ _ _ h

set_option maxRecDepth 100000 in
set_option maxHeartbeats 4000000 in
theorem w_Arrays_fill_b0 {Γ : Ctx} {Q : MI → MJ → Prop} {x0 : Nat} {len0 : Nat} {x1 : Int32}  (X : Cx Γ cJ7_fill_53178 4 RJ7 0) (Y : Rt Γ (Pv Q) (Option.none : Option Jvm.ClassFile.FieldType)) (hx0 : shp[x0]? = some (20, len0))  {I : MI} {J : MJ} (h : f_Arrays_fill x0 len0 x1 I J Q) : Wp Γ 4 0 [(0, .ref (ad Γ x0)), (1, .int x1)] [] I J := by
  unfold f_Arrays_fill at h
  refine wp_iconst X dJ7_fill_53178_0 ic_0 ?_
  refine wp_istore_n (L' := [(2, .int 0), (0, .ref (ad Γ x0)), (1, .int x1)]) X dJ7_fill_53178_1 rfl (by decide) rfl ?_
  refine wp_aload_n X dJ7_fill_53178_2 1 rfl ?_
  refine wp_alen X hx0 dJ7_fill_53178_3 ?_
  refine wp_topi (fun t4 et4 => ?_)
  have h := h t4 et4
  refine wp_istore_n (L' := [(3, .int t4), (2, .int 0), (0, .ref (ad Γ x0)), (1, .int x1)]) X dJ7_fill_53178_4 rfl (by decide) rfl ?_
  obtain ⟨n, h⟩ := h
  refine wp_sub X [2, 3, 1, 0] rfl ?_
  refine w_Arrays_fill_L5 X Y hx0 ?_ n _ _ _ h
  · intro I J h
    exact wp_vret X Y dJ7_fill_53178_20 ⟨rfl, h⟩

theorem c_Arrays_fill {l : Launch} {g : GE} (hg : Inj g) {I : MI} {J : MJ} {Q : MI → MJ → Prop} {x0 : Nat} {len0 : Nat} {x1 : Int32} (hx0 : shp[x0]? = some (20, len0)) (h : f_Arrays_fill x0 len0 x1 I J Q) : Cm l g yJ7_fill_53178 cJ7_fill_53178 4 (Option.none : Option Jvm.ClassFile.FieldType) 0 [.ref (g.1 x0), .int x1] I J (Pv Q) := by
  refine Cm.of (As := fun ad => [.ref (ad x0), .int x1]) hg pn_J7 (Nat.le_of_ble_eq_true rfl) ?_
  exact (fun Γ _ _ X Y => w_Arrays_fill_b0 X Y hx0 h)
theorem cs_Arrays_fill {Γ : Ctx} {cc : ByteArray} {nL d pc index : Nat} {own : String} {L : List (Nat × Value)} {rest : List Value} {I : MI} {J : MJ} {Q : MI → MJ → Prop} {x0 : Nat} {len0 : Nat} {x1 : Int32} (X : Cx Γ cc nL own d) (hd : decode cc pc = .ok (.invokestatic index, 3)) (hlink : Cond.methodLink own index yJ7_fill_53178 ∈ TT) (hx0 : shp[x0]? = some (20, len0)) (h : f_Arrays_fill x0 len0 x1 I J Q) (hrest : (rest.map fun v => v.category).sum ≤ 8) (hdd : 0 + 1 ≤ d) (kk : ∀ (I' : MI) (J' : MJ), Q I' J' → Wp Γ nL (pc + 3) L rest I' J') : Wp Γ nL pc L (.int x1 :: .ref (ad Γ x0) :: rest) I J :=
  wp_callS (As := [.ref (ad Γ x0), .int x1]) (rest := rest) X hd hlink mv_J7_fill_53178 (c_Arrays_fill X.inj hx0 h) rfl rfl hrest hdd (fun v I' J' hv => by obtain ⟨rfl, hq⟩ := hv; exact kk I' J' hq)
theorem dX3_begin_0 : decode cX3_begin 0 = .ok (.aload_n 0, 1) := by decide +kernel
theorem dX3_begin_1 : decode cX3_begin 1 = .ok (.iload_n 1, 1) := by decide +kernel
theorem dX3_begin_2 : decode cX3_begin 2 = .ok (.putfield 24, 3) := by decide +kernel
theorem dX3_begin_5 : decode cX3_begin 5 = .ok (.aload_n 0, 1) := by decide +kernel
theorem dX3_begin_6 : decode cX3_begin 6 = .ok (.iload_n 2, 1) := by decide +kernel
theorem dX3_begin_7 : decode cX3_begin 7 = .ok (.putfield 28, 3) := by decide +kernel
theorem dX3_begin_10 : decode cX3_begin 10 = .ok (.aload_n 0, 1) := by decide +kernel
theorem dX3_begin_11 : decode cX3_begin 11 = .ok (.iload_n 3, 1) := by decide +kernel
theorem dX3_begin_12 : decode cX3_begin 12 = .ok (.putfield 31, 3) := by decide +kernel
theorem dX3_begin_15 : decode cX3_begin 15 = .ok (.aload_n 0, 1) := by decide +kernel
theorem dX3_begin_16 : decode cX3_begin 16 = .ok (.getfield 9, 3) := by decide +kernel
theorem dX3_begin_19 : decode cX3_begin 19 = .ok (.iload_n 3, 1) := by decide +kernel
theorem dX3_begin_20 : decode cX3_begin 20 = .ok (.invokestatic 34, 3) := by decide +kernel
theorem dX3_begin_23 : decode cX3_begin 23 = .ok (.aload_n 0, 1) := by decide +kernel
theorem dX3_begin_24 : decode cX3_begin 24 = .ok (.getfield 15, 3) := by decide +kernel
theorem dX3_begin_27 : decode cX3_begin 27 = .ok (.iconst 0, 1) := by decide +kernel
theorem dX3_begin_28 : decode cX3_begin 28 = .ok (.invokestatic 34, 3) := by decide +kernel
theorem dX3_begin_31 : decode cX3_begin 31 = .ok (.aload_n 0, 1) := by decide +kernel
theorem dX3_begin_32 : decode cX3_begin 32 = .ok (.getfield 18, 3) := by decide +kernel
theorem dX3_begin_35 : decode cX3_begin 35 = .ok (.iconst 0, 1) := by decide +kernel
theorem dX3_begin_36 : decode cX3_begin 36 = .ok (.invokestatic 34, 3) := by decide +kernel
theorem dX3_begin_39 : decode cX3_begin 39 = .ok (.aload_n 0, 1) := by decide +kernel
theorem dX3_begin_40 : decode cX3_begin 40 = .ok (.getfield 21, 3) := by decide +kernel
theorem dX3_begin_43 : decode cX3_begin 43 = .ok (.iconst 0, 1) := by decide +kernel
theorem dX3_begin_44 : decode cX3_begin 44 = .ok (.invokestatic 34, 3) := by decide +kernel
theorem dX3_begin_47 : decode cX3_begin 47 = .ok (.return_, 1) := by decide +kernel
def f_Machine_begin (o : Nat) (x1 : Int32) (x2 : Int32) (x3 : Int32) (I : MI) (J : MJ) (Q : MI → MJ → Prop) : Prop :=
  ∀ I2 : MI, I2 = sI I o (upd (I o) 0 x1) → ∀ I7 : MI, I7 = sI I2 o (upd (I2 o) 1 x2) → ∀ I12 : MI, I12 = sI I7 o (upd (I7 o) 2 x3) → f_Arrays_fill (o + 1) 14 x3 I12 J (fun I20 J20 => f_Arrays_fill (o + 2) 56 (0 : Int32) I20 J20 (fun I28 J28 => f_Arrays_fill (o + 3) 56 (0 : Int32) I28 J28 (fun I36 J36 => f_Arrays_fill (o + 4) 14 (0 : Int32) I36 J36 (fun I44 J44 => Q I44 J44))))
set_option maxRecDepth 100000 in
set_option maxHeartbeats 4000000 in
theorem w_Machine_begin_b0 {Γ : Ctx} {Q : MI → MJ → Prop} {o : Nat} {x1 : Int32} {x2 : Int32} {x3 : Int32}  (X : Cx Γ cX3_begin 4 RX3 1) (Y : Rt Γ (Pv Q) (Option.none : Option Jvm.ClassFile.FieldType)) (ho : okM o)  {I : MI} {J : MJ} (h : f_Machine_begin o x1 x2 x3 I J Q) : Wp Γ 4 0 [(0, .ref (ad Γ o)), (1, .int x1), (2, .int x2), (3, .int x3)] [] I J := by
  unfold f_Machine_begin at h
  refine wp_aload_n X dX3_begin_0 0 rfl ?_
  refine wp_iload_n X dX3_begin_1 1 rfl ?_
  refine pf_X3_24 X ho.1 dX3_begin_2 (fun I2 eI2 => ?_)
  have h := h I2 eI2
  refine wp_aload_n X dX3_begin_5 0 rfl ?_
  refine wp_iload_n X dX3_begin_6 2 rfl ?_
  refine pf_X3_28 X ho.1 dX3_begin_7 (fun I7 eI7 => ?_)
  have h := h I7 eI7
  refine wp_aload_n X dX3_begin_10 0 rfl ?_
  refine wp_iload_n X dX3_begin_11 3 rfl ?_
  refine pf_X3_31 X ho.1 dX3_begin_12 (fun I12 eI12 => ?_)
  have h := h I12 eI12
  refine wp_aload_n X dX3_begin_15 0 rfl ?_
  refine gf_X3_9 (o' := o + 1) X ho.1 rfl dX3_begin_16 ?_
  refine wp_iload_n X dX3_begin_19 3 rfl ?_
  refine cs_Arrays_fill X dX3_begin_20 ml_X3_34 ho.2.1 h (Nat.le_of_ble_eq_true rfl) (by decide) (fun I20 J20 h => ?_)
  refine wp_aload_n X dX3_begin_23 0 rfl ?_
  refine gf_X3_15 (o' := o + 2) X ho.1 rfl dX3_begin_24 ?_
  refine wp_iconst X dX3_begin_27 ic_0 ?_
  refine cs_Arrays_fill X dX3_begin_28 ml_X3_34 ho.2.2.1 h (Nat.le_of_ble_eq_true rfl) (by decide) (fun I28 J28 h => ?_)
  refine wp_aload_n X dX3_begin_31 0 rfl ?_
  refine gf_X3_18 (o' := o + 3) X ho.1 rfl dX3_begin_32 ?_
  refine wp_iconst X dX3_begin_35 ic_0 ?_
  refine cs_Arrays_fill X dX3_begin_36 ml_X3_34 ho.2.2.2.1 h (Nat.le_of_ble_eq_true rfl) (by decide) (fun I36 J36 h => ?_)
  refine wp_aload_n X dX3_begin_39 0 rfl ?_
  refine gf_X3_21 (o' := o + 4) X ho.1 rfl dX3_begin_40 ?_
  refine wp_iconst X dX3_begin_43 ic_0 ?_
  refine cs_Arrays_fill X dX3_begin_44 ml_X3_34 ho.2.2.2.2 h (Nat.le_of_ble_eq_true rfl) (by decide) (fun I44 J44 h => ?_)
  exact wp_vret X Y dX3_begin_47 ⟨rfl, h⟩

theorem c_Machine_begin {l : Launch} {g : GE} (hg : Inj g) {I : MI} {J : MJ} {Q : MI → MJ → Prop} {o : Nat} {x1 : Int32} {x2 : Int32} {x3 : Int32} (ho : okM o) (h : f_Machine_begin o x1 x2 x3 I J Q) : Cm l g yX3_begin cX3_begin 4 (Option.none : Option Jvm.ClassFile.FieldType) 1 [.ref (g.1 o), .int x1, .int x2, .int x3] I J (Pv Q) := by
  refine Cm.of (As := fun ad => [.ref (ad o), .int x1, .int x2, .int x3]) hg pn_X3 (Nat.le_of_ble_eq_true rfl) ?_
  exact (fun Γ _ _ X Y => w_Machine_begin_b0 X Y ho h)
theorem cv_Machine_begin {Γ : Ctx} {cc : ByteArray} {nL d pc index : Nat} {own : String} {L : List (Nat × Value)} {rest : List Value} {I : MI} {J : MJ} {Q : MI → MJ → Prop} {o : Nat} {x1 : Int32} {x2 : Int32} {x3 : Int32} (X : Cx Γ cc nL own d) (hd : decode cc pc = .ok (.invokevirtual index, 3)) (hlink : Cond.methodLink own index yX3_begin ∈ TT) (ho : okM o) (h : f_Machine_begin o x1 x2 x3 I J Q) (hrest : (rest.map fun v => v.category).sum ≤ 8) (hdd : 1 + 1 ≤ d) (kk : ∀ (I' : MI) (J' : MJ), Q I' J' → Wp Γ nL (pc + 3) L rest I' J') : Wp Γ nL pc L (.int x3 :: .int x2 :: .int x1 :: .ref (ad Γ o) :: rest) I J :=
  wp_callV (As := [.int x1, .int x2, .int x3]) (rest := rest) (T := TX3) (N := 7) X hd hlink mv_X3_begin ho.1 (by decide) rfl (c_Machine_begin X.inj ho h) rfl rfl hrest hdd (fun v I' J' hv => by obtain ⟨rfl, hq⟩ := hv; exact kk I' J' hq)
theorem dX10_done_0 : decode cX10_done 0 = .ok (.aload_n 0, 1) := by decide +kernel
theorem dX10_done_1 : decode cX10_done 1 = .ok (.iconst 0, 1) := by decide +kernel
theorem dX10_done_2 : decode cX10_done 2 = .ok (.putfield 64, 3) := by decide +kernel
theorem dX10_done_5 : decode cX10_done 5 = .ok (.iload_n 1, 1) := by decide +kernel
theorem dX10_done_6 : decode cX10_done 6 = .ok (.ireturn, 1) := by decide +kernel
def f_School_done (x1 : Int32) (I : MI) (J : MJ) (Q : Int32 → MI → MJ → Prop) : Prop :=
  ∀ I2 : MI, I2 = sI I 0 (upd (I 0) 8 0) → Q x1 I2 J
set_option maxRecDepth 100000 in
set_option maxHeartbeats 4000000 in
theorem w_School_done_b0 {Γ : Ctx} {Q : Int32 → MI → MJ → Prop} {x1 : Int32}  (X : Cx Γ cX10_done 2 RX10 0) (Y : Rt Γ (Pi Q) (Option.some Jvm.ClassFile.FieldType.int))   {I : MI} {J : MJ} (h : f_School_done x1 I J Q) : Wp Γ 2 0 [(0, .ref (ad Γ 0)), (1, .int x1)] [] I J := by
  unfold f_School_done at h
  refine wp_aload_n X dX10_done_0 0 rfl ?_
  refine wp_iconst X dX10_done_1 ic_0 ?_
  refine pf_X10_64 X sh_0 dX10_done_2 (fun I2 eI2 => ?_)
  have h := h I2 eI2
  refine wp_iload_n X dX10_done_5 1 rfl ?_
  exact wp_iret X Y dX10_done_6 ⟨_, rfl, h⟩

theorem c_School_done {l : Launch} {g : GE} (hg : Inj g) {I : MI} {J : MJ} {Q : Int32 → MI → MJ → Prop} {x1 : Int32}  (h : f_School_done x1 I J Q) : Cm l g yX10_done cX10_done 2 (Option.some Jvm.ClassFile.FieldType.int) 0 [.ref (g.1 0), .int x1] I J (Pi Q) := by
  refine Cm.of (As := fun ad => [.ref (ad 0), .int x1]) hg pn_X10 (Nat.le_of_ble_eq_true rfl) ?_
  exact (fun Γ _ _ X Y => w_School_done_b0 X Y  h)
theorem cv_School_done {Γ : Ctx} {cc : ByteArray} {nL d pc index : Nat} {own : String} {L : List (Nat × Value)} {rest : List Value} {I : MI} {J : MJ} {Q : Int32 → MI → MJ → Prop} {x1 : Int32} (X : Cx Γ cc nL own d) (hd : decode cc pc = .ok (.invokevirtual index, 3)) (hlink : Cond.methodLink own index yX10_done ∈ TT)  (h : f_School_done x1 I J Q) (hrest : (rest.map fun v => v.category).sum ≤ 8) (hdd : 0 + 1 ≤ d) (kk : ∀ (r : Int32) (I' : MI) (J' : MJ), Q r I' J' → Wp Γ nL (pc + 3) L (.int r :: rest) I' J') : Wp Γ nL pc L (.int x1 :: .ref (ad Γ 0) :: rest) I J :=
  wp_callV (As := [.int x1]) (rest := rest) (T := TX10) (N := 9) X hd hlink mv_X10_done sh_0 (by decide) rfl (c_School_done X.inj  h) rfl rfl hrest hdd (fun v I' J' hv => by obtain ⟨r, rfl, hq⟩ := hv; exact kk r I' J' hq)
theorem dX10_machine_0 : decode cX10_machine 0 = .ok (.iload_n 1, 1) := by decide +kernel
theorem dX10_machine_1 : decode cX10_machine 1 = .ok (.invokestatic 69, 3) := by decide +kernel
theorem dX10_machine_4 : decode cX10_machine 4 = .ok (.istore 5, 2) := by decide +kernel
theorem dX10_machine_6 : decode cX10_machine 6 = .ok (.iload 5, 2) := by decide +kernel
theorem dX10_machine_8 : decode cX10_machine 8 = .ok (.ifCond .ne 15, 3) := by decide +kernel
theorem dX10_machine_11 : decode cX10_machine 11 = .ok (.iload_n 2, 1) := by decide +kernel
theorem dX10_machine_12 : decode cX10_machine 12 = .ok (.ifCond .lt 8, 3) := by decide +kernel
theorem dX10_machine_15 : decode cX10_machine 15 = .ok (.iload_n 2, 1) := by decide +kernel
theorem dX10_machine_16 : decode cX10_machine 16 = .ok (.iconst 3, 1) := by decide +kernel
theorem dX10_machine_17 : decode cX10_machine 17 = .ok (.if_icmp .le 6, 3) := by decide +kernel
theorem dX10_machine_20 : decode cX10_machine 20 = .ok (.iconst 4, 1) := by decide +kernel
theorem dX10_machine_21 : decode cX10_machine 21 = .ok (.istore 5, 2) := by decide +kernel
theorem dX10_machine_23 : decode cX10_machine 23 = .ok (.iload 5, 2) := by decide +kernel
theorem dX10_machine_25 : decode cX10_machine 25 = .ok (.ifCond .ne 15, 3) := by decide +kernel
theorem dX10_machine_28 : decode cX10_machine 28 = .ok (.iload_n 3, 1) := by decide +kernel
theorem dX10_machine_29 : decode cX10_machine 29 = .ok (.ifCond .lt 8, 3) := by decide +kernel
theorem dX10_machine_32 : decode cX10_machine 32 = .ok (.iload 4, 2) := by decide +kernel
theorem dX10_machine_34 : decode cX10_machine 34 = .ok (.ifCond .ge 6, 3) := by decide +kernel
theorem dX10_machine_37 : decode cX10_machine 37 = .ok (.iconst 3, 1) := by decide +kernel
theorem dX10_machine_38 : decode cX10_machine 38 = .ok (.istore 5, 2) := by decide +kernel
theorem dX10_machine_40 : decode cX10_machine 40 = .ok (.iload 5, 2) := by decide +kernel
theorem dX10_machine_42 : decode cX10_machine 42 = .ok (.ifCond .ne 29, 3) := by decide +kernel
theorem dX10_machine_45 : decode cX10_machine 45 = .ok (.iload_n 3, 1) := by decide +kernel
theorem dX10_machine_46 : decode cX10_machine 46 = .ok (.iconst 1, 1) := by decide +kernel
theorem dX10_machine_47 : decode cX10_machine 47 = .ok (.if_icmp .lt 21, 3) := by decide +kernel
theorem dX10_machine_50 : decode cX10_machine 50 = .ok (.iload_n 3, 1) := by decide +kernel
theorem dX10_machine_51 : decode cX10_machine 51 = .ok (.bipush 14, 2) := by decide +kernel
theorem dX10_machine_53 : decode cX10_machine 53 = .ok (.if_icmp .gt 15, 3) := by decide +kernel
theorem dX10_machine_56 : decode cX10_machine 56 = .ok (.iload 4, 2) := by decide +kernel
theorem dX10_machine_58 : decode cX10_machine 58 = .ok (.iconst 1, 1) := by decide +kernel
theorem dX10_machine_59 : decode cX10_machine 59 = .ok (.if_icmp .lt 9, 3) := by decide +kernel
theorem dX10_machine_62 : decode cX10_machine 62 = .ok (.iload 4, 2) := by decide +kernel
theorem dX10_machine_64 : decode cX10_machine 64 = .ok (.iconst 4, 1) := by decide +kernel
theorem dX10_machine_65 : decode cX10_machine 65 = .ok (.if_icmp .le 6, 3) := by decide +kernel
theorem dX10_machine_68 : decode cX10_machine 68 = .ok (.iconst 2, 1) := by decide +kernel
theorem dX10_machine_69 : decode cX10_machine 69 = .ok (.istore 5, 2) := by decide +kernel
theorem dX10_machine_71 : decode cX10_machine 71 = .ok (.iload 5, 2) := by decide +kernel
theorem dX10_machine_73 : decode cX10_machine 73 = .ok (.ifCond .eq 10, 3) := by decide +kernel
theorem dX10_machine_76 : decode cX10_machine 76 = .ok (.aload_n 0, 1) := by decide +kernel
theorem dX10_machine_77 : decode cX10_machine 77 = .ok (.iload 5, 2) := by decide +kernel
theorem dX10_machine_79 : decode cX10_machine 79 = .ok (.invokevirtual 73, 3) := by decide +kernel
theorem dX10_machine_82 : decode cX10_machine 82 = .ok (.ireturn, 1) := by decide +kernel
theorem dX10_machine_83 : decode cX10_machine 83 = .ok (.aload_n 0, 1) := by decide +kernel
theorem dX10_machine_84 : decode cX10_machine 84 = .ok (.getfield 11, 3) := by decide +kernel
theorem dX10_machine_87 : decode cX10_machine 87 = .ok (.iload_n 1, 1) := by decide +kernel
theorem dX10_machine_88 : decode cX10_machine 88 = .ok (.aaload, 1) := by decide +kernel
theorem dX10_machine_89 : decode cX10_machine 89 = .ok (.getfield 76, 3) := by decide +kernel
theorem dX10_machine_92 : decode cX10_machine 92 = .ok (.iload_n 2, 1) := by decide +kernel
theorem dX10_machine_93 : decode cX10_machine 93 = .ok (.iload_n 3, 1) := by decide +kernel
theorem dX10_machine_94 : decode cX10_machine 94 = .ok (.iload 4, 2) := by decide +kernel
theorem dX10_machine_96 : decode cX10_machine 96 = .ok (.invokevirtual 79, 3) := by decide +kernel
theorem dX10_machine_99 : decode cX10_machine 99 = .ok (.aload_n 0, 1) := by decide +kernel
theorem dX10_machine_100 : decode cX10_machine 100 = .ok (.getfield 11, 3) := by decide +kernel
theorem dX10_machine_103 : decode cX10_machine 103 = .ok (.iload_n 1, 1) := by decide +kernel
theorem dX10_machine_104 : decode cX10_machine 104 = .ok (.aaload, 1) := by decide +kernel
theorem dX10_machine_105 : decode cX10_machine 105 = .ok (.iload_n 2, 1) := by decide +kernel
theorem dX10_machine_106 : decode cX10_machine 106 = .ok (.putfield 83, 3) := by decide +kernel
theorem dX10_machine_109 : decode cX10_machine 109 = .ok (.aload_n 0, 1) := by decide +kernel
theorem dX10_machine_110 : decode cX10_machine 110 = .ok (.iload_n 3, 1) := by decide +kernel
theorem dX10_machine_111 : decode cX10_machine 111 = .ok (.invokevirtual 86, 3) := by decide +kernel
theorem dX10_machine_114 : decode cX10_machine 114 = .ok (.ireturn, 1) := by decide +kernel
def f_School_machine_b71 (x1 : Int32) (x2 : Int32) (x3 : Int32) (x4 : Int32) (x5 : Int32) (Q : Int32 → MI → MJ → Prop) (I : MI) (J : MJ) : Prop :=
  (if x5 = 0 then vp_in x1 16 ∧ f_Machine_begin (1 + 64 + 7 * x1.toNatClampNeg + 1) x2 x3 x4 I J (fun I96 J96 => vp_in x1 16 ∧ ∀ I106 : MI, I106 = sI I96 (1 + 64 + 7 * x1.toNatClampNeg) (upd (I96 (1 + 64 + 7 * x1.toNatClampNeg)) 0 x2) → f_School_done x3 I106 J96 (fun r111 I111 J111 => Q r111 I111 J111)) else f_School_refuse x5 I J (fun r79 I79 J79 => Q r79 I79 J79))
def f_School_machine_b68 (x1 : Int32) (x2 : Int32) (x3 : Int32) (x4 : Int32) (Q : Int32 → MI → MJ → Prop) (I : MI) (J : MJ) : Prop :=
  f_School_machine_b71 x1 x2 x3 x4 2 Q I J
def f_School_machine_b40 (x1 : Int32) (x2 : Int32) (x3 : Int32) (x4 : Int32) (x5 : Int32) (Q : Int32 → MI → MJ → Prop) (I : MI) (J : MJ) : Prop :=
  (if x5 = 0 then (if x3 < 1 then f_School_machine_b68 x1 x2 x3 x4 Q I J else (if 14 < x3 then f_School_machine_b68 x1 x2 x3 x4 Q I J else (if x4 < 1 then f_School_machine_b68 x1 x2 x3 x4 Q I J else (if x4 ≤ 4 then f_School_machine_b71 x1 x2 x3 x4 x5 Q I J else f_School_machine_b68 x1 x2 x3 x4 Q I J)))) else f_School_machine_b71 x1 x2 x3 x4 x5 Q I J)
def f_School_machine_b37 (x1 : Int32) (x2 : Int32) (x3 : Int32) (x4 : Int32) (Q : Int32 → MI → MJ → Prop) (I : MI) (J : MJ) : Prop :=
  f_School_machine_b40 x1 x2 x3 x4 3 Q I J
def f_School_machine_b23 (x1 : Int32) (x2 : Int32) (x3 : Int32) (x4 : Int32) (x5 : Int32) (Q : Int32 → MI → MJ → Prop) (I : MI) (J : MJ) : Prop :=
  (if x5 = 0 then (if x3 < 0 then f_School_machine_b37 x1 x2 x3 x4 Q I J else (if 0 ≤ x4 then f_School_machine_b40 x1 x2 x3 x4 x5 Q I J else f_School_machine_b37 x1 x2 x3 x4 Q I J)) else f_School_machine_b40 x1 x2 x3 x4 x5 Q I J)
def f_School_machine_b20 (x1 : Int32) (x2 : Int32) (x3 : Int32) (x4 : Int32) (Q : Int32 → MI → MJ → Prop) (I : MI) (J : MJ) : Prop :=
  f_School_machine_b23 x1 x2 x3 x4 4 Q I J
def f_School_machine (x1 : Int32) (x2 : Int32) (x3 : Int32) (x4 : Int32) (I : MI) (J : MJ) (Q : Int32 → MI → MJ → Prop) : Prop :=
  f_School_placeFault x1 I J (fun r1 I1 J1 => (if r1 = 0 then (if x2 < 0 then f_School_machine_b20 x1 x2 x3 x4 Q I1 J1 else (if x2 ≤ 3 then f_School_machine_b23 x1 x2 x3 x4 r1 Q I1 J1 else f_School_machine_b20 x1 x2 x3 x4 Q I1 J1)) else f_School_machine_b23 x1 x2 x3 x4 r1 Q I1 J1))
set_option maxRecDepth 100000 in
set_option maxHeartbeats 4000000 in
theorem w_School_machine_b71 {Γ : Ctx} {Q : Int32 → MI → MJ → Prop} {x1 : Int32} {x2 : Int32} {x3 : Int32} {x4 : Int32} {x5 : Int32}  (X : Cx Γ cX10_machine 6 RX10 2) (Y : Rt Γ (Pi Q) (Option.some Jvm.ClassFile.FieldType.int))   {I : MI} {J : MJ} (h : f_School_machine_b71 x1 x2 x3 x4 x5 Q I J) : Wp Γ 6 71 [(0, .ref (ad Γ 0)), (1, .int x1), (2, .int x2), (3, .int x3), (4, .int x4), (5, .int x5)] [] I J := by
  unfold f_School_machine_b71 at h
  refine wp_iload X dX10_machine_71 5 rfl ?_
  refine wp_if_eq (tgt := 83) X dX10_machine_73 (by decide) (fun hc => ?_) (fun hc => ?_)
  · have h := ite_t h hc
    refine wp_aload_n X dX10_machine_83 0 rfl ?_
    refine gf_X10_11 (o' := 1) X sh_0 rfl dX10_machine_84 ?_
    refine wp_iload_n X dX10_machine_87 1 rfl ?_
    obtain ⟨hb88, h⟩ := h
    refine wp_aald X sh_1 hb88 dX10_machine_88 ?_
    refine gf_X10_76 (o' := 1 + 64 + 7 * x1.toNatClampNeg + 1) X ((okP_at hb88).1) rfl dX10_machine_89 ?_
    refine wp_iload_n X dX10_machine_92 2 rfl ?_
    refine wp_iload_n X dX10_machine_93 3 rfl ?_
    refine wp_iload X dX10_machine_94 4 rfl ?_
    refine cv_Machine_begin X dX10_machine_96 ml_X10_79 ((okP_at hb88).2.1) h (Nat.le_of_ble_eq_true rfl) (by decide) (fun I96 J96 h => ?_)
    refine wp_aload_n X dX10_machine_99 0 rfl ?_
    refine gf_X10_11 (o' := 1) X sh_0 rfl dX10_machine_100 ?_
    refine wp_iload_n X dX10_machine_103 1 rfl ?_
    obtain ⟨hb104, h⟩ := h
    refine wp_aald X sh_1 hb104 dX10_machine_104 ?_
    refine wp_iload_n X dX10_machine_105 2 rfl ?_
    refine pf_X10_83 X ((okP_at hb104).1) dX10_machine_106 (fun I106 eI106 => ?_)
    have h := h I106 eI106
    refine wp_aload_n X dX10_machine_109 0 rfl ?_
    refine wp_iload_n X dX10_machine_110 3 rfl ?_
    refine cv_School_done X dX10_machine_111 ml_X10_86  h (Nat.le_of_ble_eq_true rfl) (by decide) (fun r111 I111 J111 h => ?_)
    exact wp_iret X Y dX10_machine_114 ⟨_, rfl, h⟩
  · have h := ite_f h hc
    refine wp_aload_n X dX10_machine_76 0 rfl ?_
    refine wp_iload X dX10_machine_77 5 rfl ?_
    refine cv_School_refuse X dX10_machine_79 ml_X10_73  h (Nat.le_of_ble_eq_true rfl) (by decide) (fun r79 I79 J79 h => ?_)
    exact wp_iret X Y dX10_machine_82 ⟨_, rfl, h⟩

set_option maxRecDepth 100000 in
set_option maxHeartbeats 4000000 in
theorem w_School_machine_b68 {Γ : Ctx} {Q : Int32 → MI → MJ → Prop} {x1 : Int32} {x2 : Int32} {x3 : Int32} {x4 : Int32}  (X : Cx Γ cX10_machine 6 RX10 2) (Y : Rt Γ (Pi Q) (Option.some Jvm.ClassFile.FieldType.int))   {I : MI} {J : MJ} (h : f_School_machine_b68 x1 x2 x3 x4 Q I J) : Wp Γ 6 68 [(0, .ref (ad Γ 0)), (1, .int x1), (2, .int x2), (3, .int x3), (4, .int x4)] [] I J := by
  unfold f_School_machine_b68 at h
  refine wp_iconst X dX10_machine_68 ic_2 ?_
  refine wp_istore (L' := [(5, .int 2), (0, .ref (ad Γ 0)), (1, .int x1), (2, .int x2), (3, .int x3), (4, .int x4)]) X dX10_machine_69 (by decide) rfl ?_
  refine wp_sub X [1, 2, 3, 4, 5, 0] rfl ?_
  exact w_School_machine_b71 X Y  h

set_option maxRecDepth 100000 in
set_option maxHeartbeats 4000000 in
theorem w_School_machine_b40 {Γ : Ctx} {Q : Int32 → MI → MJ → Prop} {x1 : Int32} {x2 : Int32} {x3 : Int32} {x4 : Int32} {x5 : Int32}  (X : Cx Γ cX10_machine 6 RX10 2) (Y : Rt Γ (Pi Q) (Option.some Jvm.ClassFile.FieldType.int))   {I : MI} {J : MJ} (h : f_School_machine_b40 x1 x2 x3 x4 x5 Q I J) : Wp Γ 6 40 [(0, .ref (ad Γ 0)), (1, .int x1), (2, .int x2), (3, .int x3), (4, .int x4), (5, .int x5)] [] I J := by
  unfold f_School_machine_b40 at h
  refine wp_iload X dX10_machine_40 5 rfl ?_
  refine wp_if_ne (tgt := 71) X dX10_machine_42 (by decide) (fun hc => ?_) (fun hc => ?_)
  · have h := ite_f h hc
    exact w_School_machine_b71 X Y  h
  · have h := ite_t h hc
    refine wp_iload_n X dX10_machine_45 3 rfl ?_
    refine wp_iconst X dX10_machine_46 ic_1 ?_
    refine wp_icmp_lt (tgt := 68) X dX10_machine_47 (by decide) (fun hc => ?_) (fun hc => ?_)
    · have h := ite_t h hc
      refine wp_sub X [0, 1, 2, 3, 4] rfl ?_
      exact w_School_machine_b68 X Y  h
    · have h := ite_f h hc
      refine wp_iload_n X dX10_machine_50 3 rfl ?_
      refine wp_bipush X dX10_machine_51 bi_14 ?_
      refine wp_icmp_gt (tgt := 68) X dX10_machine_53 (by decide) (fun hc => ?_) (fun hc => ?_)
      · have h := ite_t h hc
        refine wp_sub X [0, 1, 2, 3, 4] rfl ?_
        exact w_School_machine_b68 X Y  h
      · have h := ite_f h hc
        refine wp_iload X dX10_machine_56 4 rfl ?_
        refine wp_iconst X dX10_machine_58 ic_1 ?_
        refine wp_icmp_lt (tgt := 68) X dX10_machine_59 (by decide) (fun hc => ?_) (fun hc => ?_)
        · have h := ite_t h hc
          refine wp_sub X [0, 1, 2, 3, 4] rfl ?_
          exact w_School_machine_b68 X Y  h
        · have h := ite_f h hc
          refine wp_iload X dX10_machine_62 4 rfl ?_
          refine wp_iconst X dX10_machine_64 ic_4 ?_
          refine wp_icmp_le (tgt := 71) X dX10_machine_65 (by decide) (fun hc => ?_) (fun hc => ?_)
          · have h := ite_t h hc
            exact w_School_machine_b71 X Y  h
          · have h := ite_f h hc
            refine wp_sub X [0, 1, 2, 3, 4] rfl ?_
            exact w_School_machine_b68 X Y  h

set_option maxRecDepth 100000 in
set_option maxHeartbeats 4000000 in
theorem w_School_machine_b37 {Γ : Ctx} {Q : Int32 → MI → MJ → Prop} {x1 : Int32} {x2 : Int32} {x3 : Int32} {x4 : Int32}  (X : Cx Γ cX10_machine 6 RX10 2) (Y : Rt Γ (Pi Q) (Option.some Jvm.ClassFile.FieldType.int))   {I : MI} {J : MJ} (h : f_School_machine_b37 x1 x2 x3 x4 Q I J) : Wp Γ 6 37 [(0, .ref (ad Γ 0)), (1, .int x1), (2, .int x2), (3, .int x3), (4, .int x4)] [] I J := by
  unfold f_School_machine_b37 at h
  refine wp_iconst X dX10_machine_37 ic_3 ?_
  refine wp_istore (L' := [(5, .int 3), (0, .ref (ad Γ 0)), (1, .int x1), (2, .int x2), (3, .int x3), (4, .int x4)]) X dX10_machine_38 (by decide) rfl ?_
  refine wp_sub X [1, 2, 3, 4, 5, 0] rfl ?_
  exact w_School_machine_b40 X Y  h

set_option maxRecDepth 100000 in
set_option maxHeartbeats 4000000 in
theorem w_School_machine_b23 {Γ : Ctx} {Q : Int32 → MI → MJ → Prop} {x1 : Int32} {x2 : Int32} {x3 : Int32} {x4 : Int32} {x5 : Int32}  (X : Cx Γ cX10_machine 6 RX10 2) (Y : Rt Γ (Pi Q) (Option.some Jvm.ClassFile.FieldType.int))   {I : MI} {J : MJ} (h : f_School_machine_b23 x1 x2 x3 x4 x5 Q I J) : Wp Γ 6 23 [(0, .ref (ad Γ 0)), (1, .int x1), (2, .int x2), (3, .int x3), (4, .int x4), (5, .int x5)] [] I J := by
  unfold f_School_machine_b23 at h
  refine wp_iload X dX10_machine_23 5 rfl ?_
  refine wp_if_ne (tgt := 40) X dX10_machine_25 (by decide) (fun hc => ?_) (fun hc => ?_)
  · have h := ite_f h hc
    exact w_School_machine_b40 X Y  h
  · have h := ite_t h hc
    refine wp_iload_n X dX10_machine_28 3 rfl ?_
    refine wp_if_lt (tgt := 37) X dX10_machine_29 (by decide) (fun hc => ?_) (fun hc => ?_)
    · have h := ite_t h hc
      refine wp_sub X [0, 1, 2, 3, 4] rfl ?_
      exact w_School_machine_b37 X Y  h
    · have h := ite_f h hc
      refine wp_iload X dX10_machine_32 4 rfl ?_
      refine wp_if_ge (tgt := 40) X dX10_machine_34 (by decide) (fun hc => ?_) (fun hc => ?_)
      · have h := ite_t h hc
        exact w_School_machine_b40 X Y  h
      · have h := ite_f h hc
        refine wp_sub X [0, 1, 2, 3, 4] rfl ?_
        exact w_School_machine_b37 X Y  h

set_option maxRecDepth 100000 in
set_option maxHeartbeats 4000000 in
theorem w_School_machine_b20 {Γ : Ctx} {Q : Int32 → MI → MJ → Prop} {x1 : Int32} {x2 : Int32} {x3 : Int32} {x4 : Int32}  (X : Cx Γ cX10_machine 6 RX10 2) (Y : Rt Γ (Pi Q) (Option.some Jvm.ClassFile.FieldType.int))   {I : MI} {J : MJ} (h : f_School_machine_b20 x1 x2 x3 x4 Q I J) : Wp Γ 6 20 [(0, .ref (ad Γ 0)), (1, .int x1), (2, .int x2), (3, .int x3), (4, .int x4)] [] I J := by
  unfold f_School_machine_b20 at h
  refine wp_iconst X dX10_machine_20 ic_4 ?_
  refine wp_istore (L' := [(5, .int 4), (0, .ref (ad Γ 0)), (1, .int x1), (2, .int x2), (3, .int x3), (4, .int x4)]) X dX10_machine_21 (by decide) rfl ?_
  refine wp_sub X [1, 2, 3, 4, 5, 0] rfl ?_
  exact w_School_machine_b23 X Y  h

set_option maxRecDepth 100000 in
set_option maxHeartbeats 4000000 in
theorem w_School_machine_b0 {Γ : Ctx} {Q : Int32 → MI → MJ → Prop} {x1 : Int32} {x2 : Int32} {x3 : Int32} {x4 : Int32}  (X : Cx Γ cX10_machine 6 RX10 2) (Y : Rt Γ (Pi Q) (Option.some Jvm.ClassFile.FieldType.int))   {I : MI} {J : MJ} (h : f_School_machine x1 x2 x3 x4 I J Q) : Wp Γ 6 0 [(0, .ref (ad Γ 0)), (1, .int x1), (2, .int x2), (3, .int x3), (4, .int x4)] [] I J := by
  unfold f_School_machine at h
  refine wp_iload_n X dX10_machine_0 1 rfl ?_
  refine cs_School_placeFault X dX10_machine_1 ml_X10_69  h (Nat.le_of_ble_eq_true rfl) (by decide) (fun r1 I1 J1 h => ?_)
  refine wp_istore (L' := [(5, .int r1), (0, .ref (ad Γ 0)), (1, .int x1), (2, .int x2), (3, .int x3), (4, .int x4)]) X dX10_machine_4 (by decide) rfl ?_
  refine wp_iload X dX10_machine_6 0 rfl ?_
  refine wp_if_ne (tgt := 23) X dX10_machine_8 (by decide) (fun hc => ?_) (fun hc => ?_)
  · have h := ite_f h hc
    refine wp_sub X [1, 2, 3, 4, 5, 0] rfl ?_
    exact w_School_machine_b23 X Y  h
  · have h := ite_t h hc
    refine wp_iload_n X dX10_machine_11 3 rfl ?_
    refine wp_if_lt (tgt := 20) X dX10_machine_12 (by decide) (fun hc => ?_) (fun hc => ?_)
    · have h := ite_t h hc
      refine wp_sub X [1, 2, 3, 4, 5] rfl ?_
      exact w_School_machine_b20 X Y  h
    · have h := ite_f h hc
      refine wp_iload_n X dX10_machine_15 3 rfl ?_
      refine wp_iconst X dX10_machine_16 ic_3 ?_
      refine wp_icmp_le (tgt := 23) X dX10_machine_17 (by decide) (fun hc => ?_) (fun hc => ?_)
      · have h := ite_t h hc
        refine wp_sub X [1, 2, 3, 4, 5, 0] rfl ?_
        exact w_School_machine_b23 X Y  h
      · have h := ite_f h hc
        refine wp_sub X [1, 2, 3, 4, 5] rfl ?_
        exact w_School_machine_b20 X Y  h

theorem c_School_machine {l : Launch} {g : GE} (hg : Inj g) {I : MI} {J : MJ} {Q : Int32 → MI → MJ → Prop} {x1 : Int32} {x2 : Int32} {x3 : Int32} {x4 : Int32}  (h : f_School_machine x1 x2 x3 x4 I J Q) : Cm l g yX10_machine cX10_machine 6 (Option.some Jvm.ClassFile.FieldType.int) 2 [.ref (g.1 0), .int x1, .int x2, .int x3, .int x4] I J (Pi Q) := by
  refine Cm.of (As := fun ad => [.ref (ad 0), .int x1, .int x2, .int x3, .int x4]) hg pn_X10 (Nat.le_of_ble_eq_true rfl) ?_
  exact (fun Γ _ _ X Y => w_School_machine_b0 X Y  h)
theorem cv_School_machine {Γ : Ctx} {cc : ByteArray} {nL d pc index : Nat} {own : String} {L : List (Nat × Value)} {rest : List Value} {I : MI} {J : MJ} {Q : Int32 → MI → MJ → Prop} {x1 : Int32} {x2 : Int32} {x3 : Int32} {x4 : Int32} (X : Cx Γ cc nL own d) (hd : decode cc pc = .ok (.invokevirtual index, 3)) (hlink : Cond.methodLink own index yX10_machine ∈ TT)  (h : f_School_machine x1 x2 x3 x4 I J Q) (hrest : (rest.map fun v => v.category).sum ≤ 8) (hdd : 2 + 1 ≤ d) (kk : ∀ (r : Int32) (I' : MI) (J' : MJ), Q r I' J' → Wp Γ nL (pc + 3) L (.int r :: rest) I' J') : Wp Γ nL pc L (.int x4 :: .int x3 :: .int x2 :: .int x1 :: .ref (ad Γ 0) :: rest) I J :=
  wp_callV (As := [.int x1, .int x2, .int x3, .int x4]) (rest := rest) (T := TX10) (N := 9) X hd hlink mv_X10_machine sh_0 (by decide) rfl (c_School_machine X.inj  h) rfl rfl hrest hdd (fun v I' J' hv => by obtain ⟨r, rfl, hq⟩ := hv; exact kk r I' J' hq)
theorem dX10_thingFault_0 : decode cX10_thingFault 0 = .ok (.iload_n 1, 1) := by decide +kernel
theorem dX10_thingFault_1 : decode cX10_thingFault 1 = .ok (.invokestatic 150, 3) := by decide +kernel
theorem dX10_thingFault_4 : decode cX10_thingFault 4 = .ok (.ifCond .ne 5, 3) := by decide +kernel
theorem dX10_thingFault_7 : decode cX10_thingFault 7 = .ok (.iconst 2, 1) := by decide +kernel
theorem dX10_thingFault_8 : decode cX10_thingFault 8 = .ok (.ireturn, 1) := by decide +kernel
theorem dX10_thingFault_9 : decode cX10_thingFault 9 = .ok (.aload_n 0, 1) := by decide +kernel
theorem dX10_thingFault_10 : decode cX10_thingFault 10 = .ok (.getfield 11, 3) := by decide +kernel
theorem dX10_thingFault_13 : decode cX10_thingFault 13 = .ok (.iload_n 1, 1) := by decide +kernel
theorem dX10_thingFault_14 : decode cX10_thingFault 14 = .ok (.aaload, 1) := by decide +kernel
theorem dX10_thingFault_15 : decode cX10_thingFault 15 = .ok (.getfield 83, 3) := by decide +kernel
theorem dX10_thingFault_18 : decode cX10_thingFault 18 = .ok (.iconst (-1), 1) := by decide +kernel
theorem dX10_thingFault_19 : decode cX10_thingFault 19 = .ok (.if_icmp .ne 7, 3) := by decide +kernel
theorem dX10_thingFault_22 : decode cX10_thingFault 22 = .ok (.iconst 1, 1) := by decide +kernel
theorem dX10_thingFault_23 : decode cX10_thingFault 23 = .ok (.goto 4, 3) := by decide +kernel
theorem dX10_thingFault_26 : decode cX10_thingFault 26 = .ok (.iconst 0, 1) := by decide +kernel
theorem dX10_thingFault_27 : decode cX10_thingFault 27 = .ok (.ireturn, 1) := by decide +kernel
def f_School_thingFault (x1 : Int32) (I : MI) (J : MJ) (Q : Int32 → MI → MJ → Prop) : Prop :=
  f_School_isPlace x1 I J (fun r1 I1 J1 => (if r1 = 0 then Q 2 I1 J1 else vp_in x1 16 ∧ (if (I1 (1 + 64 + 7 * x1.toNatClampNeg) 0) = (-1) then Q 1 I1 J1 else Q 0 I1 J1)))
set_option maxRecDepth 100000 in
set_option maxHeartbeats 4000000 in
theorem w_School_thingFault_b0 {Γ : Ctx} {Q : Int32 → MI → MJ → Prop} {x1 : Int32}  (X : Cx Γ cX10_thingFault 2 RX10 1) (Y : Rt Γ (Pi Q) (Option.some Jvm.ClassFile.FieldType.int))   {I : MI} {J : MJ} (h : f_School_thingFault x1 I J Q) : Wp Γ 2 0 [(0, .ref (ad Γ 0)), (1, .int x1)] [] I J := by
  unfold f_School_thingFault at h
  refine wp_iload_n X dX10_thingFault_0 1 rfl ?_
  refine cs_School_isPlace X dX10_thingFault_1 ml_X10_150  h (Nat.le_of_ble_eq_true rfl) (by decide) (fun r1 I1 J1 h => ?_)
  refine wp_if_ne (tgt := 9) X dX10_thingFault_4 (by decide) (fun hc => ?_) (fun hc => ?_)
  · have h := ite_f h hc
    refine wp_aload_n X dX10_thingFault_9 0 rfl ?_
    refine gf_X10_11 (o' := 1) X sh_0 rfl dX10_thingFault_10 ?_
    refine wp_iload_n X dX10_thingFault_13 1 rfl ?_
    obtain ⟨hb14, h⟩ := h
    refine wp_aald X sh_1 hb14 dX10_thingFault_14 ?_
    refine gf_X10_83 X ((okP_at hb14).1) dX10_thingFault_15 ?_
    refine wp_iconst X dX10_thingFault_18 ic_m1 ?_
    refine wp_icmp_ne (tgt := 26) X dX10_thingFault_19 (by decide) (fun hc => ?_) (fun hc => ?_)
    · have h := ite_f h hc
      refine wp_iconst X dX10_thingFault_26 ic_0 ?_
      exact wp_iret X Y dX10_thingFault_27 ⟨_, rfl, h⟩
    · have h := ite_t h hc
      refine wp_iconst X dX10_thingFault_22 ic_1 ?_
      refine wp_goto (tgt := 27) X dX10_thingFault_23 (by decide) ?_
      exact wp_iret X Y dX10_thingFault_27 ⟨_, rfl, h⟩
  · have h := ite_t h hc
    refine wp_iconst X dX10_thingFault_7 ic_2 ?_
    exact wp_iret X Y dX10_thingFault_8 ⟨_, rfl, h⟩

theorem c_School_thingFault {l : Launch} {g : GE} (hg : Inj g) {I : MI} {J : MJ} {Q : Int32 → MI → MJ → Prop} {x1 : Int32}  (h : f_School_thingFault x1 I J Q) : Cm l g yX10_thingFault cX10_thingFault 2 (Option.some Jvm.ClassFile.FieldType.int) 1 [.ref (g.1 0), .int x1] I J (Pi Q) := by
  refine Cm.of (As := fun ad => [.ref (ad 0), .int x1]) hg pn_X10 (Nat.le_of_ble_eq_true rfl) ?_
  exact (fun Γ _ _ X Y => w_School_thingFault_b0 X Y  h)
theorem cv_School_thingFault {Γ : Ctx} {cc : ByteArray} {nL d pc index : Nat} {own : String} {L : List (Nat × Value)} {rest : List Value} {I : MI} {J : MJ} {Q : Int32 → MI → MJ → Prop} {x1 : Int32} (X : Cx Γ cc nL own d) (hd : decode cc pc = .ok (.invokevirtual index, 3)) (hlink : Cond.methodLink own index yX10_thingFault ∈ TT)  (h : f_School_thingFault x1 I J Q) (hrest : (rest.map fun v => v.category).sum ≤ 8) (hdd : 1 + 1 ≤ d) (kk : ∀ (r : Int32) (I' : MI) (J' : MJ), Q r I' J' → Wp Γ nL (pc + 3) L (.int r :: rest) I' J') : Wp Γ nL pc L (.int x1 :: .ref (ad Γ 0) :: rest) I J :=
  wp_callV (As := [.int x1]) (rest := rest) (T := TX10) (N := 9) X hd hlink mv_X10_thingFault sh_0 (by decide) rfl (c_School_thingFault X.inj  h) rfl rfl hrest hdd (fun v I' J' hv => by obtain ⟨r, rfl, hq⟩ := hv; exact kk r I' J' hq)
theorem dX4_hasMachine_0 : decode cX4_hasMachine 0 = .ok (.aload_n 0, 1) := by decide +kernel
theorem dX4_hasMachine_1 : decode cX4_hasMachine 1 = .ok (.getfield 9, 3) := by decide +kernel
theorem dX4_hasMachine_4 : decode cX4_hasMachine 4 = .ok (.ifCond .lt 15, 3) := by decide +kernel
theorem dX4_hasMachine_7 : decode cX4_hasMachine 7 = .ok (.aload_n 0, 1) := by decide +kernel
theorem dX4_hasMachine_8 : decode cX4_hasMachine 8 = .ok (.getfield 9, 3) := by decide +kernel
theorem dX4_hasMachine_11 : decode cX4_hasMachine 11 = .ok (.iconst 3, 1) := by decide +kernel
theorem dX4_hasMachine_12 : decode cX4_hasMachine 12 = .ok (.if_icmp .gt 7, 3) := by decide +kernel
theorem dX4_hasMachine_15 : decode cX4_hasMachine 15 = .ok (.iconst 1, 1) := by decide +kernel
theorem dX4_hasMachine_16 : decode cX4_hasMachine 16 = .ok (.goto 4, 3) := by decide +kernel
theorem dX4_hasMachine_19 : decode cX4_hasMachine 19 = .ok (.iconst 0, 1) := by decide +kernel
theorem dX4_hasMachine_20 : decode cX4_hasMachine 20 = .ok (.ireturn, 1) := by decide +kernel
def f_Place_hasMachine (o : Nat) (I : MI) (J : MJ) (Q : Int32 → MI → MJ → Prop) : Prop :=
  (if (I o 0) < 0 then Q 0 I J else (if 3 < (I o 0) then Q 0 I J else Q 1 I J))
set_option maxRecDepth 100000 in
set_option maxHeartbeats 4000000 in
theorem w_Place_hasMachine_b0 {Γ : Ctx} {Q : Int32 → MI → MJ → Prop} {o : Nat}  (X : Cx Γ cX4_hasMachine 1 RX4 0) (Y : Rt Γ (Pi Q) (Option.some Jvm.ClassFile.FieldType.boolean)) (ho : okP o)  {I : MI} {J : MJ} (h : f_Place_hasMachine o I J Q) : Wp Γ 1 0 [(0, .ref (ad Γ o))] [] I J := by
  unfold f_Place_hasMachine at h
  refine wp_aload_n X dX4_hasMachine_0 0 rfl ?_
  refine gf_X4_9 X ho.1 dX4_hasMachine_1 ?_
  refine wp_if_lt (tgt := 19) X dX4_hasMachine_4 (by decide) (fun hc => ?_) (fun hc => ?_)
  · have h := ite_t h hc
    refine wp_iconst X dX4_hasMachine_19 ic_0 ?_
    exact wp_zret X Y dX4_hasMachine_20 (by decide) ⟨_, rfl, h⟩
  · have h := ite_f h hc
    refine wp_aload_n X dX4_hasMachine_7 0 rfl ?_
    refine gf_X4_9 X ho.1 dX4_hasMachine_8 ?_
    refine wp_iconst X dX4_hasMachine_11 ic_3 ?_
    refine wp_icmp_gt (tgt := 19) X dX4_hasMachine_12 (by decide) (fun hc => ?_) (fun hc => ?_)
    · have h := ite_t h hc
      refine wp_iconst X dX4_hasMachine_19 ic_0 ?_
      exact wp_zret X Y dX4_hasMachine_20 (by decide) ⟨_, rfl, h⟩
    · have h := ite_f h hc
      refine wp_iconst X dX4_hasMachine_15 ic_1 ?_
      refine wp_goto (tgt := 20) X dX4_hasMachine_16 (by decide) ?_
      exact wp_zret X Y dX4_hasMachine_20 (by decide) ⟨_, rfl, h⟩

theorem c_Place_hasMachine {l : Launch} {g : GE} (hg : Inj g) {I : MI} {J : MJ} {Q : Int32 → MI → MJ → Prop} {o : Nat} (ho : okP o) (h : f_Place_hasMachine o I J Q) : Cm l g yX4_hasMachine cX4_hasMachine 1 (Option.some Jvm.ClassFile.FieldType.boolean) 0 [.ref (g.1 o)] I J (Pi Q) := by
  refine Cm.of (As := fun ad => [.ref (ad o)]) hg pn_X4 (Nat.le_of_ble_eq_true rfl) ?_
  exact (fun Γ _ _ X Y => w_Place_hasMachine_b0 X Y ho h)
theorem cv_Place_hasMachine {Γ : Ctx} {cc : ByteArray} {nL d pc index : Nat} {own : String} {L : List (Nat × Value)} {rest : List Value} {I : MI} {J : MJ} {Q : Int32 → MI → MJ → Prop} {o : Nat} (X : Cx Γ cc nL own d) (hd : decode cc pc = .ok (.invokevirtual index, 3)) (hlink : Cond.methodLink own index yX4_hasMachine ∈ TT) (ho : okP o) (h : f_Place_hasMachine o I J Q) (hrest : (rest.map fun v => v.category).sum ≤ 8) (hdd : 0 + 1 ≤ d) (kk : ∀ (r : Int32) (I' : MI) (J' : MJ), Q r I' J' → Wp Γ nL (pc + 3) L (.int r :: rest) I' J') : Wp Γ nL pc L (.ref (ad Γ o) :: rest) I J :=
  wp_callV (As := []) (rest := rest) (T := TX4) (N := 7) X hd hlink mv_X4_hasMachine ho.1 (by decide) rfl (c_Place_hasMachine X.inj ho h) rfl rfl hrest hdd (fun v I' J' hv => by obtain ⟨r, rfl, hq⟩ := hv; exact kk r I' J' hq)
theorem dX10_machineFault_0 : decode cX10_machineFault 0 = .ok (.aload_n 0, 1) := by decide +kernel
theorem dX10_machineFault_1 : decode cX10_machineFault 1 = .ok (.iload_n 1, 1) := by decide +kernel
theorem dX10_machineFault_2 : decode cX10_machineFault 2 = .ok (.invokevirtual 147, 3) := by decide +kernel
theorem dX10_machineFault_5 : decode cX10_machineFault 5 = .ok (.istore_n 2, 1) := by decide +kernel
theorem dX10_machineFault_6 : decode cX10_machineFault 6 = .ok (.iload_n 2, 1) := by decide +kernel
theorem dX10_machineFault_7 : decode cX10_machineFault 7 = .ok (.ifCond .ne 19, 3) := by decide +kernel
theorem dX10_machineFault_10 : decode cX10_machineFault 10 = .ok (.aload_n 0, 1) := by decide +kernel
theorem dX10_machineFault_11 : decode cX10_machineFault 11 = .ok (.getfield 11, 3) := by decide +kernel
theorem dX10_machineFault_14 : decode cX10_machineFault 14 = .ok (.iload_n 1, 1) := by decide +kernel
theorem dX10_machineFault_15 : decode cX10_machineFault 15 = .ok (.aaload, 1) := by decide +kernel
theorem dX10_machineFault_16 : decode cX10_machineFault 16 = .ok (.invokevirtual 153, 3) := by decide +kernel
theorem dX10_machineFault_19 : decode cX10_machineFault 19 = .ok (.ifCond .ne 7, 3) := by decide +kernel
theorem dX10_machineFault_22 : decode cX10_machineFault 22 = .ok (.iconst 4, 1) := by decide +kernel
theorem dX10_machineFault_23 : decode cX10_machineFault 23 = .ok (.goto 4, 3) := by decide +kernel
theorem dX10_machineFault_26 : decode cX10_machineFault 26 = .ok (.iload_n 2, 1) := by decide +kernel
theorem dX10_machineFault_27 : decode cX10_machineFault 27 = .ok (.ireturn, 1) := by decide +kernel
def f_School_machineFault (x1 : Int32) (I : MI) (J : MJ) (Q : Int32 → MI → MJ → Prop) : Prop :=
  f_School_thingFault x1 I J (fun r2 I2 J2 => (if r2 = 0 then vp_in x1 16 ∧ f_Place_hasMachine (1 + 64 + 7 * x1.toNatClampNeg) I2 J2 (fun r16 I16 J16 => (if r16 = 0 then Q 4 I16 J16 else Q r2 I16 J16)) else Q r2 I2 J2))
set_option maxRecDepth 100000 in
set_option maxHeartbeats 4000000 in
theorem w_School_machineFault_b0 {Γ : Ctx} {Q : Int32 → MI → MJ → Prop} {x1 : Int32}  (X : Cx Γ cX10_machineFault 3 RX10 2) (Y : Rt Γ (Pi Q) (Option.some Jvm.ClassFile.FieldType.int))   {I : MI} {J : MJ} (h : f_School_machineFault x1 I J Q) : Wp Γ 3 0 [(0, .ref (ad Γ 0)), (1, .int x1)] [] I J := by
  unfold f_School_machineFault at h
  refine wp_aload_n X dX10_machineFault_0 0 rfl ?_
  refine wp_iload_n X dX10_machineFault_1 1 rfl ?_
  refine cv_School_thingFault X dX10_machineFault_2 ml_X10_147  h (Nat.le_of_ble_eq_true rfl) (by decide) (fun r2 I2 J2 h => ?_)
  refine wp_istore_n (L' := [(2, .int r2), (0, .ref (ad Γ 0)), (1, .int x1)]) X dX10_machineFault_5 rfl (by decide) rfl ?_
  refine wp_iload_n X dX10_machineFault_6 0 rfl ?_
  refine wp_if_ne (tgt := 26) X dX10_machineFault_7 (by decide) (fun hc => ?_) (fun hc => ?_)
  · have h := ite_f h hc
    refine wp_iload_n X dX10_machineFault_26 0 rfl ?_
    exact wp_iret X Y dX10_machineFault_27 ⟨_, rfl, h⟩
  · have h := ite_t h hc
    refine wp_aload_n X dX10_machineFault_10 1 rfl ?_
    refine gf_X10_11 (o' := 1) X sh_0 rfl dX10_machineFault_11 ?_
    refine wp_iload_n X dX10_machineFault_14 2 rfl ?_
    obtain ⟨hb15, h⟩ := h
    refine wp_aald X sh_1 hb15 dX10_machineFault_15 ?_
    refine cv_Place_hasMachine X dX10_machineFault_16 ml_X10_153 (okP_at hb15) h (Nat.le_of_ble_eq_true rfl) (by decide) (fun r16 I16 J16 h => ?_)
    refine wp_if_ne (tgt := 26) X dX10_machineFault_19 (by decide) (fun hc => ?_) (fun hc => ?_)
    · have h := ite_f h hc
      refine wp_iload_n X dX10_machineFault_26 0 rfl ?_
      exact wp_iret X Y dX10_machineFault_27 ⟨_, rfl, h⟩
    · have h := ite_t h hc
      refine wp_iconst X dX10_machineFault_22 ic_4 ?_
      refine wp_goto (tgt := 27) X dX10_machineFault_23 (by decide) ?_
      exact wp_iret X Y dX10_machineFault_27 ⟨_, rfl, h⟩

theorem c_School_machineFault {l : Launch} {g : GE} (hg : Inj g) {I : MI} {J : MJ} {Q : Int32 → MI → MJ → Prop} {x1 : Int32}  (h : f_School_machineFault x1 I J Q) : Cm l g yX10_machineFault cX10_machineFault 3 (Option.some Jvm.ClassFile.FieldType.int) 2 [.ref (g.1 0), .int x1] I J (Pi Q) := by
  refine Cm.of (As := fun ad => [.ref (ad 0), .int x1]) hg pn_X10 (Nat.le_of_ble_eq_true rfl) ?_
  exact (fun Γ _ _ X Y => w_School_machineFault_b0 X Y  h)
theorem cv_School_machineFault {Γ : Ctx} {cc : ByteArray} {nL d pc index : Nat} {own : String} {L : List (Nat × Value)} {rest : List Value} {I : MI} {J : MJ} {Q : Int32 → MI → MJ → Prop} {x1 : Int32} (X : Cx Γ cc nL own d) (hd : decode cc pc = .ok (.invokevirtual index, 3)) (hlink : Cond.methodLink own index yX10_machineFault ∈ TT)  (h : f_School_machineFault x1 I J Q) (hrest : (rest.map fun v => v.category).sum ≤ 8) (hdd : 2 + 1 ≤ d) (kk : ∀ (r : Int32) (I' : MI) (J' : MJ), Q r I' J' → Wp Γ nL (pc + 3) L (.int r :: rest) I' J') : Wp Γ nL pc L (.int x1 :: .ref (ad Γ 0) :: rest) I J :=
  wp_callV (As := [.int x1]) (rest := rest) (T := TX10) (N := 9) X hd hlink mv_X10_machineFault sh_0 (by decide) rfl (c_School_machineFault X.inj  h) rfl rfl hrest hdd (fun v I' J' hv => by obtain ⟨r, rfl, hq⟩ := hv; exact kk r I' J' hq)
theorem dX3_isFirm_0 : decode cX3_isFirm 0 = .ok (.aload_n 0, 1) := by decide +kernel
theorem dX3_isFirm_1 : decode cX3_isFirm 1 = .ok (.getfield 24, 3) := by decide +kernel
theorem dX3_isFirm_4 : decode cX3_isFirm 4 = .ok (.ifCond .eq 11, 3) := by decide +kernel
theorem dX3_isFirm_7 : decode cX3_isFirm 7 = .ok (.aload_n 0, 1) := by decide +kernel
theorem dX3_isFirm_8 : decode cX3_isFirm 8 = .ok (.getfield 24, 3) := by decide +kernel
theorem dX3_isFirm_11 : decode cX3_isFirm 11 = .ok (.iconst 1, 1) := by decide +kernel
theorem dX3_isFirm_12 : decode cX3_isFirm 12 = .ok (.if_icmp .ne 7, 3) := by decide +kernel
theorem dX3_isFirm_15 : decode cX3_isFirm 15 = .ok (.iconst 1, 1) := by decide +kernel
theorem dX3_isFirm_16 : decode cX3_isFirm 16 = .ok (.goto 4, 3) := by decide +kernel
theorem dX3_isFirm_19 : decode cX3_isFirm 19 = .ok (.iconst 0, 1) := by decide +kernel
theorem dX3_isFirm_20 : decode cX3_isFirm 20 = .ok (.ireturn, 1) := by decide +kernel
def f_Machine_isFirm_b15  (Q : Int32 → MI → MJ → Prop) (I : MI) (J : MJ) : Prop :=
  Q 1 I J
def f_Machine_isFirm (o : Nat) (I : MI) (J : MJ) (Q : Int32 → MI → MJ → Prop) : Prop :=
  (if (I o 0) = 0 then f_Machine_isFirm_b15 Q I J else (if (I o 0) = 1 then f_Machine_isFirm_b15 Q I J else Q 0 I J))
set_option maxRecDepth 100000 in
set_option maxHeartbeats 4000000 in
theorem w_Machine_isFirm_b15 {Γ : Ctx} {Q : Int32 → MI → MJ → Prop}   (X : Cx Γ cX3_isFirm 1 RX3 0) (Y : Rt Γ (Pi Q) (Option.some Jvm.ClassFile.FieldType.boolean))   {I : MI} {J : MJ} (h : f_Machine_isFirm_b15 Q I J) : Wp Γ 1 15 [] [] I J := by
  unfold f_Machine_isFirm_b15 at h
  refine wp_iconst X dX3_isFirm_15 ic_1 ?_
  refine wp_goto (tgt := 20) X dX3_isFirm_16 (by decide) ?_
  exact wp_zret X Y dX3_isFirm_20 (by decide) ⟨_, rfl, h⟩

set_option maxRecDepth 100000 in
set_option maxHeartbeats 4000000 in
theorem w_Machine_isFirm_b0 {Γ : Ctx} {Q : Int32 → MI → MJ → Prop} {o : Nat}  (X : Cx Γ cX3_isFirm 1 RX3 0) (Y : Rt Γ (Pi Q) (Option.some Jvm.ClassFile.FieldType.boolean)) (ho : okM o)  {I : MI} {J : MJ} (h : f_Machine_isFirm o I J Q) : Wp Γ 1 0 [(0, .ref (ad Γ o))] [] I J := by
  unfold f_Machine_isFirm at h
  refine wp_aload_n X dX3_isFirm_0 0 rfl ?_
  refine gf_X3_24 X ho.1 dX3_isFirm_1 ?_
  refine wp_if_eq (tgt := 15) X dX3_isFirm_4 (by decide) (fun hc => ?_) (fun hc => ?_)
  · have h := ite_t h hc
    refine wp_sub X [] rfl ?_
    exact w_Machine_isFirm_b15 X Y  h
  · have h := ite_f h hc
    refine wp_aload_n X dX3_isFirm_7 0 rfl ?_
    refine gf_X3_24 X ho.1 dX3_isFirm_8 ?_
    refine wp_iconst X dX3_isFirm_11 ic_1 ?_
    refine wp_icmp_ne (tgt := 19) X dX3_isFirm_12 (by decide) (fun hc => ?_) (fun hc => ?_)
    · have h := ite_f h hc
      refine wp_iconst X dX3_isFirm_19 ic_0 ?_
      exact wp_zret X Y dX3_isFirm_20 (by decide) ⟨_, rfl, h⟩
    · have h := ite_t h hc
      refine wp_sub X [] rfl ?_
      exact w_Machine_isFirm_b15 X Y  h

theorem c_Machine_isFirm {l : Launch} {g : GE} (hg : Inj g) {I : MI} {J : MJ} {Q : Int32 → MI → MJ → Prop} {o : Nat} (ho : okM o) (h : f_Machine_isFirm o I J Q) : Cm l g yX3_isFirm cX3_isFirm 1 (Option.some Jvm.ClassFile.FieldType.boolean) 0 [.ref (g.1 o)] I J (Pi Q) := by
  refine Cm.of (As := fun ad => [.ref (ad o)]) hg pn_X3 (Nat.le_of_ble_eq_true rfl) ?_
  exact (fun Γ _ _ X Y => w_Machine_isFirm_b0 X Y ho h)
theorem cv_Machine_isFirm {Γ : Ctx} {cc : ByteArray} {nL d pc index : Nat} {own : String} {L : List (Nat × Value)} {rest : List Value} {I : MI} {J : MJ} {Q : Int32 → MI → MJ → Prop} {o : Nat} (X : Cx Γ cc nL own d) (hd : decode cc pc = .ok (.invokevirtual index, 3)) (hlink : Cond.methodLink own index yX3_isFirm ∈ TT) (ho : okM o) (h : f_Machine_isFirm o I J Q) (hrest : (rest.map fun v => v.category).sum ≤ 8) (hdd : 0 + 1 ≤ d) (kk : ∀ (r : Int32) (I' : MI) (J' : MJ), Q r I' J' → Wp Γ nL (pc + 3) L (.int r :: rest) I' J') : Wp Γ nL pc L (.ref (ad Γ o) :: rest) I J :=
  wp_callV (As := []) (rest := rest) (T := TX3) (N := 7) X hd hlink mv_X3_isFirm ho.1 (by decide) rfl (c_Machine_isFirm X.inj ho h) rfl rfl hrest hdd (fun v I' J' hv => by obtain ⟨r, rfl, hq⟩ := hv; exact kk r I' J' hq)
theorem dX3_hasState_0 : decode cX3_hasState 0 = .ok (.iload_n 1, 1) := by decide +kernel
theorem dX3_hasState_1 : decode cX3_hasState 1 = .ok (.ifCond .lt 15, 3) := by decide +kernel
theorem dX3_hasState_4 : decode cX3_hasState 4 = .ok (.iload_n 1, 1) := by decide +kernel
theorem dX3_hasState_5 : decode cX3_hasState 5 = .ok (.aload_n 0, 1) := by decide +kernel
theorem dX3_hasState_6 : decode cX3_hasState 6 = .ok (.getfield 28, 3) := by decide +kernel
theorem dX3_hasState_9 : decode cX3_hasState 9 = .ok (.if_icmp .ge 7, 3) := by decide +kernel
theorem dX3_hasState_12 : decode cX3_hasState 12 = .ok (.iconst 1, 1) := by decide +kernel
theorem dX3_hasState_13 : decode cX3_hasState 13 = .ok (.goto 4, 3) := by decide +kernel
theorem dX3_hasState_16 : decode cX3_hasState 16 = .ok (.iconst 0, 1) := by decide +kernel
theorem dX3_hasState_17 : decode cX3_hasState 17 = .ok (.ireturn, 1) := by decide +kernel
def f_Machine_hasState (o : Nat) (x1 : Int32) (I : MI) (J : MJ) (Q : Int32 → MI → MJ → Prop) : Prop :=
  (if x1 < 0 then Q 0 I J else (if (I o 1) ≤ x1 then Q 0 I J else Q 1 I J))
set_option maxRecDepth 100000 in
set_option maxHeartbeats 4000000 in
theorem w_Machine_hasState_b0 {Γ : Ctx} {Q : Int32 → MI → MJ → Prop} {o : Nat} {x1 : Int32}  (X : Cx Γ cX3_hasState 2 RX3 0) (Y : Rt Γ (Pi Q) (Option.some Jvm.ClassFile.FieldType.boolean)) (ho : okM o)  {I : MI} {J : MJ} (h : f_Machine_hasState o x1 I J Q) : Wp Γ 2 0 [(0, .ref (ad Γ o)), (1, .int x1)] [] I J := by
  unfold f_Machine_hasState at h
  refine wp_iload_n X dX3_hasState_0 1 rfl ?_
  refine wp_if_lt (tgt := 16) X dX3_hasState_1 (by decide) (fun hc => ?_) (fun hc => ?_)
  · have h := ite_t h hc
    refine wp_iconst X dX3_hasState_16 ic_0 ?_
    exact wp_zret X Y dX3_hasState_17 (by decide) ⟨_, rfl, h⟩
  · have h := ite_f h hc
    refine wp_iload_n X dX3_hasState_4 1 rfl ?_
    refine wp_aload_n X dX3_hasState_5 0 rfl ?_
    refine gf_X3_28 X ho.1 dX3_hasState_6 ?_
    refine wp_icmp_ge (tgt := 16) X dX3_hasState_9 (by decide) (fun hc => ?_) (fun hc => ?_)
    · have h := ite_t h hc
      refine wp_iconst X dX3_hasState_16 ic_0 ?_
      exact wp_zret X Y dX3_hasState_17 (by decide) ⟨_, rfl, h⟩
    · have h := ite_f h hc
      refine wp_iconst X dX3_hasState_12 ic_1 ?_
      refine wp_goto (tgt := 17) X dX3_hasState_13 (by decide) ?_
      exact wp_zret X Y dX3_hasState_17 (by decide) ⟨_, rfl, h⟩

theorem c_Machine_hasState {l : Launch} {g : GE} (hg : Inj g) {I : MI} {J : MJ} {Q : Int32 → MI → MJ → Prop} {o : Nat} {x1 : Int32} (ho : okM o) (h : f_Machine_hasState o x1 I J Q) : Cm l g yX3_hasState cX3_hasState 2 (Option.some Jvm.ClassFile.FieldType.boolean) 0 [.ref (g.1 o), .int x1] I J (Pi Q) := by
  refine Cm.of (As := fun ad => [.ref (ad o), .int x1]) hg pn_X3 (Nat.le_of_ble_eq_true rfl) ?_
  exact (fun Γ _ _ X Y => w_Machine_hasState_b0 X Y ho h)
theorem cv_Machine_hasState {Γ : Ctx} {cc : ByteArray} {nL d pc index : Nat} {own : String} {L : List (Nat × Value)} {rest : List Value} {I : MI} {J : MJ} {Q : Int32 → MI → MJ → Prop} {o : Nat} {x1 : Int32} (X : Cx Γ cc nL own d) (hd : decode cc pc = .ok (.invokevirtual index, 3)) (hlink : Cond.methodLink own index yX3_hasState ∈ TT) (ho : okM o) (h : f_Machine_hasState o x1 I J Q) (hrest : (rest.map fun v => v.category).sum ≤ 8) (hdd : 0 + 1 ≤ d) (kk : ∀ (r : Int32) (I' : MI) (J' : MJ), Q r I' J' → Wp Γ nL (pc + 3) L (.int r :: rest) I' J') : Wp Γ nL pc L (.int x1 :: .ref (ad Γ o) :: rest) I J :=
  wp_callV (As := [.int x1]) (rest := rest) (T := TX3) (N := 7) X hd hlink mv_X3_hasState ho.1 (by decide) rfl (c_Machine_hasState X.inj ho h) rfl rfl hrest hdd (fun v I' J' hv => by obtain ⟨r, rfl, hq⟩ := hv; exact kk r I' J' hq)
theorem dX10_looseRowFault_0 : decode cX10_looseRowFault 0 = .ok (.aload_n 0, 1) := by decide +kernel
theorem dX10_looseRowFault_1 : decode cX10_looseRowFault 1 = .ok (.iload_n 1, 1) := by decide +kernel
theorem dX10_looseRowFault_2 : decode cX10_looseRowFault 2 = .ok (.invokevirtual 100, 3) := by decide +kernel
theorem dX10_looseRowFault_5 : decode cX10_looseRowFault 5 = .ok (.istore_n 3, 1) := by decide +kernel
theorem dX10_looseRowFault_6 : decode cX10_looseRowFault 6 = .ok (.iload_n 3, 1) := by decide +kernel
theorem dX10_looseRowFault_7 : decode cX10_looseRowFault 7 = .ok (.ifCond .ne 20, 3) := by decide +kernel
theorem dX10_looseRowFault_10 : decode cX10_looseRowFault 10 = .ok (.aload_n 0, 1) := by decide +kernel
theorem dX10_looseRowFault_11 : decode cX10_looseRowFault 11 = .ok (.getfield 11, 3) := by decide +kernel
theorem dX10_looseRowFault_14 : decode cX10_looseRowFault 14 = .ok (.iload_n 1, 1) := by decide +kernel
theorem dX10_looseRowFault_15 : decode cX10_looseRowFault 15 = .ok (.aaload, 1) := by decide +kernel
theorem dX10_looseRowFault_16 : decode cX10_looseRowFault 16 = .ok (.getfield 76, 3) := by decide +kernel
theorem dX10_looseRowFault_19 : decode cX10_looseRowFault 19 = .ok (.invokevirtual 110, 3) := by decide +kernel
theorem dX10_looseRowFault_22 : decode cX10_looseRowFault 22 = .ok (.ifCond .eq 5, 3) := by decide +kernel
theorem dX10_looseRowFault_25 : decode cX10_looseRowFault 25 = .ok (.iconst 4, 1) := by decide +kernel
theorem dX10_looseRowFault_26 : decode cX10_looseRowFault 26 = .ok (.istore_n 3, 1) := by decide +kernel
theorem dX10_looseRowFault_27 : decode cX10_looseRowFault 27 = .ok (.iload_n 3, 1) := by decide +kernel
theorem dX10_looseRowFault_28 : decode cX10_looseRowFault 28 = .ok (.ifCond .ne 21, 3) := by decide +kernel
theorem dX10_looseRowFault_31 : decode cX10_looseRowFault 31 = .ok (.aload_n 0, 1) := by decide +kernel
theorem dX10_looseRowFault_32 : decode cX10_looseRowFault 32 = .ok (.getfield 11, 3) := by decide +kernel
theorem dX10_looseRowFault_35 : decode cX10_looseRowFault 35 = .ok (.iload_n 1, 1) := by decide +kernel
theorem dX10_looseRowFault_36 : decode cX10_looseRowFault 36 = .ok (.aaload, 1) := by decide +kernel
theorem dX10_looseRowFault_37 : decode cX10_looseRowFault 37 = .ok (.getfield 76, 3) := by decide +kernel
theorem dX10_looseRowFault_40 : decode cX10_looseRowFault 40 = .ok (.iload_n 2, 1) := by decide +kernel
theorem dX10_looseRowFault_41 : decode cX10_looseRowFault 41 = .ok (.invokevirtual 118, 3) := by decide +kernel
theorem dX10_looseRowFault_44 : decode cX10_looseRowFault 44 = .ok (.ifCond .ne 5, 3) := by decide +kernel
theorem dX10_looseRowFault_47 : decode cX10_looseRowFault 47 = .ok (.iconst 2, 1) := by decide +kernel
theorem dX10_looseRowFault_48 : decode cX10_looseRowFault 48 = .ok (.istore_n 3, 1) := by decide +kernel
theorem dX10_looseRowFault_49 : decode cX10_looseRowFault 49 = .ok (.iload_n 3, 1) := by decide +kernel
theorem dX10_looseRowFault_50 : decode cX10_looseRowFault 50 = .ok (.ireturn, 1) := by decide +kernel
def f_School_looseRowFault_b27 (x1 : Int32) (x2 : Int32) (x3 : Int32) (Q : Int32 → MI → MJ → Prop) (I : MI) (J : MJ) : Prop :=
  (if x3 = 0 then vp_in x1 16 ∧ f_Machine_hasState (1 + 64 + 7 * x1.toNatClampNeg + 1) x2 I J (fun r41 I41 J41 => (if r41 = 0 then Q 2 I41 J41 else Q x3 I41 J41)) else Q x3 I J)
def f_School_looseRowFault (x1 : Int32) (x2 : Int32) (I : MI) (J : MJ) (Q : Int32 → MI → MJ → Prop) : Prop :=
  f_School_machineFault x1 I J (fun r2 I2 J2 => (if r2 = 0 then vp_in x1 16 ∧ f_Machine_isFirm (1 + 64 + 7 * x1.toNatClampNeg + 1) I2 J2 (fun r19 I19 J19 => (if r19 = 0 then f_School_looseRowFault_b27 x1 x2 r2 Q I19 J19 else f_School_looseRowFault_b27 x1 x2 4 Q I19 J19)) else f_School_looseRowFault_b27 x1 x2 r2 Q I2 J2))
set_option maxRecDepth 100000 in
set_option maxHeartbeats 4000000 in
theorem w_School_looseRowFault_b27 {Γ : Ctx} {Q : Int32 → MI → MJ → Prop} {x1 : Int32} {x2 : Int32} {x3 : Int32}  (X : Cx Γ cX10_looseRowFault 4 RX10 3) (Y : Rt Γ (Pi Q) (Option.some Jvm.ClassFile.FieldType.int))   {I : MI} {J : MJ} (h : f_School_looseRowFault_b27 x1 x2 x3 Q I J) : Wp Γ 4 27 [(0, .ref (ad Γ 0)), (1, .int x1), (2, .int x2), (3, .int x3)] [] I J := by
  unfold f_School_looseRowFault_b27 at h
  refine wp_iload_n X dX10_looseRowFault_27 3 rfl ?_
  refine wp_if_ne (tgt := 49) X dX10_looseRowFault_28 (by decide) (fun hc => ?_) (fun hc => ?_)
  · have h := ite_f h hc
    refine wp_iload_n X dX10_looseRowFault_49 3 rfl ?_
    exact wp_iret X Y dX10_looseRowFault_50 ⟨_, rfl, h⟩
  · have h := ite_t h hc
    refine wp_aload_n X dX10_looseRowFault_31 0 rfl ?_
    refine gf_X10_11 (o' := 1) X sh_0 rfl dX10_looseRowFault_32 ?_
    refine wp_iload_n X dX10_looseRowFault_35 1 rfl ?_
    obtain ⟨hb36, h⟩ := h
    refine wp_aald X sh_1 hb36 dX10_looseRowFault_36 ?_
    refine gf_X10_76 (o' := 1 + 64 + 7 * x1.toNatClampNeg + 1) X ((okP_at hb36).1) rfl dX10_looseRowFault_37 ?_
    refine wp_iload_n X dX10_looseRowFault_40 2 rfl ?_
    refine cv_Machine_hasState X dX10_looseRowFault_41 ml_X10_118 ((okP_at hb36).2.1) h (Nat.le_of_ble_eq_true rfl) (by decide) (fun r41 I41 J41 h => ?_)
    refine wp_if_ne (tgt := 49) X dX10_looseRowFault_44 (by decide) (fun hc => ?_) (fun hc => ?_)
    · have h := ite_f h hc
      refine wp_iload_n X dX10_looseRowFault_49 3 rfl ?_
      exact wp_iret X Y dX10_looseRowFault_50 ⟨_, rfl, h⟩
    · have h := ite_t h hc
      refine wp_iconst X dX10_looseRowFault_47 ic_2 ?_
      refine wp_istore_n (L' := [(3, .int 2), (0, .ref (ad Γ 0)), (1, .int x1), (2, .int x2)]) X dX10_looseRowFault_48 rfl (by decide) rfl ?_
      refine wp_iload_n X dX10_looseRowFault_49 0 rfl ?_
      exact wp_iret X Y dX10_looseRowFault_50 ⟨_, rfl, h⟩

set_option maxRecDepth 100000 in
set_option maxHeartbeats 4000000 in
theorem w_School_looseRowFault_b0 {Γ : Ctx} {Q : Int32 → MI → MJ → Prop} {x1 : Int32} {x2 : Int32}  (X : Cx Γ cX10_looseRowFault 4 RX10 3) (Y : Rt Γ (Pi Q) (Option.some Jvm.ClassFile.FieldType.int))   {I : MI} {J : MJ} (h : f_School_looseRowFault x1 x2 I J Q) : Wp Γ 4 0 [(0, .ref (ad Γ 0)), (1, .int x1), (2, .int x2)] [] I J := by
  unfold f_School_looseRowFault at h
  refine wp_aload_n X dX10_looseRowFault_0 0 rfl ?_
  refine wp_iload_n X dX10_looseRowFault_1 1 rfl ?_
  refine cv_School_machineFault X dX10_looseRowFault_2 ml_X10_100  h (Nat.le_of_ble_eq_true rfl) (by decide) (fun r2 I2 J2 h => ?_)
  refine wp_istore_n (L' := [(3, .int r2), (0, .ref (ad Γ 0)), (1, .int x1), (2, .int x2)]) X dX10_looseRowFault_5 rfl (by decide) rfl ?_
  refine wp_iload_n X dX10_looseRowFault_6 0 rfl ?_
  refine wp_if_ne (tgt := 27) X dX10_looseRowFault_7 (by decide) (fun hc => ?_) (fun hc => ?_)
  · have h := ite_f h hc
    refine wp_sub X [1, 2, 3, 0] rfl ?_
    exact w_School_looseRowFault_b27 X Y  h
  · have h := ite_t h hc
    refine wp_aload_n X dX10_looseRowFault_10 1 rfl ?_
    refine gf_X10_11 (o' := 1) X sh_0 rfl dX10_looseRowFault_11 ?_
    refine wp_iload_n X dX10_looseRowFault_14 2 rfl ?_
    obtain ⟨hb15, h⟩ := h
    refine wp_aald X sh_1 hb15 dX10_looseRowFault_15 ?_
    refine gf_X10_76 (o' := 1 + 64 + 7 * x1.toNatClampNeg + 1) X ((okP_at hb15).1) rfl dX10_looseRowFault_16 ?_
    refine cv_Machine_isFirm X dX10_looseRowFault_19 ml_X10_110 ((okP_at hb15).2.1) h (Nat.le_of_ble_eq_true rfl) (by decide) (fun r19 I19 J19 h => ?_)
    refine wp_if_eq (tgt := 27) X dX10_looseRowFault_22 (by decide) (fun hc => ?_) (fun hc => ?_)
    · have h := ite_t h hc
      refine wp_sub X [1, 2, 3, 0] rfl ?_
      exact w_School_looseRowFault_b27 X Y  h
    · have h := ite_f h hc
      refine wp_iconst X dX10_looseRowFault_25 ic_4 ?_
      refine wp_istore_n (L' := [(3, .int 4), (0, .ref (ad Γ 0)), (1, .int x1), (2, .int x2)]) X dX10_looseRowFault_26 rfl (by decide) rfl ?_
      refine wp_sub X [1, 2, 3, 0] rfl ?_
      exact w_School_looseRowFault_b27 X Y  h

theorem c_School_looseRowFault {l : Launch} {g : GE} (hg : Inj g) {I : MI} {J : MJ} {Q : Int32 → MI → MJ → Prop} {x1 : Int32} {x2 : Int32}  (h : f_School_looseRowFault x1 x2 I J Q) : Cm l g yX10_looseRowFault cX10_looseRowFault 4 (Option.some Jvm.ClassFile.FieldType.int) 3 [.ref (g.1 0), .int x1, .int x2] I J (Pi Q) := by
  refine Cm.of (As := fun ad => [.ref (ad 0), .int x1, .int x2]) hg pn_X10 (Nat.le_of_ble_eq_true rfl) ?_
  exact (fun Γ _ _ X Y => w_School_looseRowFault_b0 X Y  h)
theorem cv_School_looseRowFault {Γ : Ctx} {cc : ByteArray} {nL d pc index : Nat} {own : String} {L : List (Nat × Value)} {rest : List Value} {I : MI} {J : MJ} {Q : Int32 → MI → MJ → Prop} {x1 : Int32} {x2 : Int32} (X : Cx Γ cc nL own d) (hd : decode cc pc = .ok (.invokevirtual index, 3)) (hlink : Cond.methodLink own index yX10_looseRowFault ∈ TT)  (h : f_School_looseRowFault x1 x2 I J Q) (hrest : (rest.map fun v => v.category).sum ≤ 8) (hdd : 3 + 1 ≤ d) (kk : ∀ (r : Int32) (I' : MI) (J' : MJ), Q r I' J' → Wp Γ nL (pc + 3) L (.int r :: rest) I' J') : Wp Γ nL pc L (.int x2 :: .int x1 :: .ref (ad Γ 0) :: rest) I J :=
  wp_callV (As := [.int x1, .int x2]) (rest := rest) (T := TX10) (N := 9) X hd hlink mv_X10_looseRowFault sh_0 (by decide) rfl (c_School_looseRowFault X.inj  h) rfl rfl hrest hdd (fun v I' J' hv => by obtain ⟨r, rfl, hq⟩ := hv; exact kk r I' J' hq)
theorem dX3_newRow_0 : decode cX3_newRow 0 = .ok (.aload_n 0, 1) := by decide +kernel
theorem dX3_newRow_1 : decode cX3_newRow 1 = .ok (.getfield 9, 3) := by decide +kernel
theorem dX3_newRow_4 : decode cX3_newRow 4 = .ok (.iload_n 1, 1) := by decide +kernel
theorem dX3_newRow_5 : decode cX3_newRow 5 = .ok (.iload_n 2, 1) := by decide +kernel
theorem dX3_newRow_6 : decode cX3_newRow 6 = .ok (.iastore, 1) := by decide +kernel
theorem dX3_newRow_7 : decode cX3_newRow 7 = .ok (.iconst 0, 1) := by decide +kernel
theorem dX3_newRow_8 : decode cX3_newRow 8 = .ok (.istore_n 3, 1) := by decide +kernel
theorem dX3_newRow_9 : decode cX3_newRow 9 = .ok (.iload_n 3, 1) := by decide +kernel
theorem dX3_newRow_10 : decode cX3_newRow 10 = .ok (.iconst 4, 1) := by decide +kernel
theorem dX3_newRow_11 : decode cX3_newRow 11 = .ok (.if_icmp .ge 31, 3) := by decide +kernel
theorem dX3_newRow_14 : decode cX3_newRow 14 = .ok (.aload_n 0, 1) := by decide +kernel
theorem dX3_newRow_15 : decode cX3_newRow 15 = .ok (.getfield 15, 3) := by decide +kernel
theorem dX3_newRow_18 : decode cX3_newRow 18 = .ok (.iload_n 1, 1) := by decide +kernel
theorem dX3_newRow_19 : decode cX3_newRow 19 = .ok (.iconst 4, 1) := by decide +kernel
theorem dX3_newRow_20 : decode cX3_newRow 20 = .ok (.imul, 1) := by decide +kernel
theorem dX3_newRow_21 : decode cX3_newRow 21 = .ok (.iload_n 3, 1) := by decide +kernel
theorem dX3_newRow_22 : decode cX3_newRow 22 = .ok (.iadd, 1) := by decide +kernel
theorem dX3_newRow_23 : decode cX3_newRow 23 = .ok (.iconst (-1), 1) := by decide +kernel
theorem dX3_newRow_24 : decode cX3_newRow 24 = .ok (.iastore, 1) := by decide +kernel
theorem dX3_newRow_25 : decode cX3_newRow 25 = .ok (.aload_n 0, 1) := by decide +kernel
theorem dX3_newRow_26 : decode cX3_newRow 26 = .ok (.getfield 18, 3) := by decide +kernel
theorem dX3_newRow_29 : decode cX3_newRow 29 = .ok (.iload_n 1, 1) := by decide +kernel
theorem dX3_newRow_30 : decode cX3_newRow 30 = .ok (.iconst 4, 1) := by decide +kernel
theorem dX3_newRow_31 : decode cX3_newRow 31 = .ok (.imul, 1) := by decide +kernel
theorem dX3_newRow_32 : decode cX3_newRow 32 = .ok (.iload_n 3, 1) := by decide +kernel
theorem dX3_newRow_33 : decode cX3_newRow 33 = .ok (.iadd, 1) := by decide +kernel
theorem dX3_newRow_34 : decode cX3_newRow 34 = .ok (.iconst 0, 1) := by decide +kernel
theorem dX3_newRow_35 : decode cX3_newRow 35 = .ok (.iastore, 1) := by decide +kernel
theorem dX3_newRow_36 : decode cX3_newRow 36 = .ok (.iinc 3 1, 3) := by decide +kernel
theorem dX3_newRow_39 : decode cX3_newRow 39 = .ok (.goto (-30), 3) := by decide +kernel
theorem dX3_newRow_42 : decode cX3_newRow 42 = .ok (.return_, 1) := by decide +kernel
def f_Machine_newRow_L9 (x0 : Nat) (x1 : Int32) (k42 : MI → MJ → Prop) : Nat → Int32 → MI → MJ → Prop
  | 0, _, _, _ => False
  | nf9 + 1, x3, I, J =>
  (if 4 ≤ x3 then k42 I J else vp_in ((x1 * 4) + x3) 56 ∧ ∀ I24 : MI, I24 = sI I (x0 + 2) (upd (I (x0 + 2)) ((x1 * 4) + x3).toNatClampNeg (-1)) → vp_in ((x1 * 4) + x3) 56 ∧ ∀ I35 : MI, I35 = sI I24 (x0 + 3) (upd (I24 (x0 + 3)) ((x1 * 4) + x3).toNatClampNeg 0) → ∀ t36 : Int32, t36 = x3 + 1 → f_Machine_newRow_L9 x0 x1 k42 nf9 t36 I35 J)
def f_Machine_newRow (o : Nat) (x1 : Int32) (x2 : Int32) (I : MI) (J : MJ) (Q : MI → MJ → Prop) : Prop :=
  vp_in x1 14 ∧ ∀ I6 : MI, I6 = sI I (o + 1) (upd (I (o + 1)) x1.toNatClampNeg x2) → ∃ n, f_Machine_newRow_L9 o x1 (fun (I : MI) (J : MJ) => Q I J) n 0 I6 J
set_option maxRecDepth 100000 in
set_option maxHeartbeats 4000000 in
theorem w_Machine_newRow_L9 {Γ : Ctx} {Q : MI → MJ → Prop} {x0 : Nat} {x1 : Int32} {k42 : MI → MJ → Prop} (X : Cx Γ cX3_newRow 4 RX3 0) (Y : Rt Γ (Pv Q) (Option.none : Option Jvm.ClassFile.FieldType)) (hx0 : okM x0) (hk42 : ∀ (I : MI) (J : MJ), k42 I J → Wp Γ 4 42 [] [] I J) : ∀ (n : Nat) (x3 : Int32) (I : MI) (J : MJ), f_Machine_newRow_L9 x0 x1 k42 n x3 I J → Wp Γ 4 9 [(0, .ref (ad Γ x0)), (1, .int x1), (3, .int x3)] [] I J := by
  intro n
  induction n with
  | zero => intro x3 I J h; exact absurd h (by simp [f_Machine_newRow_L9])
  | succ n ih =>
  intro x3 I J h
  unfold f_Machine_newRow_L9 at h
  refine wp_iload_n X dX3_newRow_9 2 rfl ?_
  refine wp_iconst X dX3_newRow_10 ic_4 ?_
  refine wp_icmp_ge (tgt := 42) X dX3_newRow_11 (by decide) (fun hc => ?_) (fun hc => ?_)
  · have h := ite_t h hc
    refine wp_sub X [] rfl ?_
    exact hk42 _ _ h
  · have h := ite_f h hc
    refine wp_aload_n X dX3_newRow_14 0 rfl ?_
    refine gf_X3_15 (o' := x0 + 2) X hx0.1 rfl dX3_newRow_15 ?_
    refine wp_iload_n X dX3_newRow_18 1 rfl ?_
    refine wp_iconst X dX3_newRow_19 ic_4 ?_
    refine wp_imul X dX3_newRow_20 ?_
    refine wp_iload_n X dX3_newRow_21 2 rfl ?_
    refine wp_iadd X dX3_newRow_22 ?_
    refine wp_iconst X dX3_newRow_23 ic_m1 ?_
    obtain ⟨hb24, h⟩ := h
    refine wp_iast X hx0.2.2.1 hb24 dX3_newRow_24 ?_
    refine wp_memI (fun I24 eI24 => ?_)
    have h := h I24 eI24
    refine wp_aload_n X dX3_newRow_25 0 rfl ?_
    refine gf_X3_18 (o' := x0 + 3) X hx0.1 rfl dX3_newRow_26 ?_
    refine wp_iload_n X dX3_newRow_29 1 rfl ?_
    refine wp_iconst X dX3_newRow_30 ic_4 ?_
    refine wp_imul X dX3_newRow_31 ?_
    refine wp_iload_n X dX3_newRow_32 2 rfl ?_
    refine wp_iadd X dX3_newRow_33 ?_
    refine wp_iconst X dX3_newRow_34 ic_0 ?_
    obtain ⟨hb35, h⟩ := h
    refine wp_iast X hx0.2.2.2.1 hb35 dX3_newRow_35 ?_
    refine wp_memI (fun I35 eI35 => ?_)
    have h := h I35 eI35
    obtain ⟨t36, et36⟩ : ∃ y : Int32, y = x3 + 1 := ⟨_, rfl⟩
    have h := h t36 et36
    refine wp_iinc (L' := [(3, .int t36), (0, .ref (ad Γ x0)), (1, .int x1)]) X dX3_newRow_36 2 rfl (ii_1 et36) (by decide) rfl ?_
    refine wp_goto (tgt := 9) X dX3_newRow_39 (by decide) ?_
    refine wp_sub X [1, 2, 0] rfl ?_
    exact ih _ _ _ h

set_option maxRecDepth 100000 in
set_option maxHeartbeats 4000000 in
theorem w_Machine_newRow_b0 {Γ : Ctx} {Q : MI → MJ → Prop} {o : Nat} {x1 : Int32} {x2 : Int32}  (X : Cx Γ cX3_newRow 4 RX3 0) (Y : Rt Γ (Pv Q) (Option.none : Option Jvm.ClassFile.FieldType)) (ho : okM o)  {I : MI} {J : MJ} (h : f_Machine_newRow o x1 x2 I J Q) : Wp Γ 4 0 [(0, .ref (ad Γ o)), (1, .int x1), (2, .int x2)] [] I J := by
  unfold f_Machine_newRow at h
  refine wp_aload_n X dX3_newRow_0 0 rfl ?_
  refine gf_X3_9 (o' := o + 1) X ho.1 rfl dX3_newRow_1 ?_
  refine wp_iload_n X dX3_newRow_4 1 rfl ?_
  refine wp_iload_n X dX3_newRow_5 2 rfl ?_
  obtain ⟨hb6, h⟩ := h
  refine wp_iast X ho.2.1 hb6 dX3_newRow_6 ?_
  refine wp_memI (fun I6 eI6 => ?_)
  have h := h I6 eI6
  refine wp_iconst X dX3_newRow_7 ic_0 ?_
  refine wp_istore_n (L' := [(3, .int 0), (0, .ref (ad Γ o)), (1, .int x1), (2, .int x2)]) X dX3_newRow_8 rfl (by decide) rfl ?_
  obtain ⟨n, h⟩ := h
  refine wp_sub X [1, 2, 0] rfl ?_
  refine w_Machine_newRow_L9 X Y ho ?_ n _ _ _ h
  · intro I J h
    exact wp_vret X Y dX3_newRow_42 ⟨rfl, h⟩

theorem c_Machine_newRow {l : Launch} {g : GE} (hg : Inj g) {I : MI} {J : MJ} {Q : MI → MJ → Prop} {o : Nat} {x1 : Int32} {x2 : Int32} (ho : okM o) (h : f_Machine_newRow o x1 x2 I J Q) : Cm l g yX3_newRow cX3_newRow 4 (Option.none : Option Jvm.ClassFile.FieldType) 0 [.ref (g.1 o), .int x1, .int x2] I J (Pv Q) := by
  refine Cm.of (As := fun ad => [.ref (ad o), .int x1, .int x2]) hg pn_X3 (Nat.le_of_ble_eq_true rfl) ?_
  exact (fun Γ _ _ X Y => w_Machine_newRow_b0 X Y ho h)
theorem cv_Machine_newRow {Γ : Ctx} {cc : ByteArray} {nL d pc index : Nat} {own : String} {L : List (Nat × Value)} {rest : List Value} {I : MI} {J : MJ} {Q : MI → MJ → Prop} {o : Nat} {x1 : Int32} {x2 : Int32} (X : Cx Γ cc nL own d) (hd : decode cc pc = .ok (.invokevirtual index, 3)) (hlink : Cond.methodLink own index yX3_newRow ∈ TT) (ho : okM o) (h : f_Machine_newRow o x1 x2 I J Q) (hrest : (rest.map fun v => v.category).sum ≤ 8) (hdd : 0 + 1 ≤ d) (kk : ∀ (I' : MI) (J' : MJ), Q I' J' → Wp Γ nL (pc + 3) L rest I' J') : Wp Γ nL pc L (.int x2 :: .int x1 :: .ref (ad Γ o) :: rest) I J :=
  wp_callV (As := [.int x1, .int x2]) (rest := rest) (T := TX3) (N := 7) X hd hlink mv_X3_newRow ho.1 (by decide) rfl (c_Machine_newRow X.inj ho h) rfl rfl hrest hdd (fun v I' J' hv => by obtain ⟨rfl, hq⟩ := hv; exact kk I' J' hq)
theorem dX10_row_0 : decode cX10_row 0 = .ok (.aload_n 0, 1) := by decide +kernel
theorem dX10_row_1 : decode cX10_row 1 = .ok (.iload_n 1, 1) := by decide +kernel
theorem dX10_row_2 : decode cX10_row 2 = .ok (.iload_n 2, 1) := by decide +kernel
theorem dX10_row_3 : decode cX10_row 3 = .ok (.invokevirtual 89, 3) := by decide +kernel
theorem dX10_row_6 : decode cX10_row 6 = .ok (.istore 4, 2) := by decide +kernel
theorem dX10_row_8 : decode cX10_row 8 = .ok (.iload 4, 2) := by decide +kernel
theorem dX10_row_10 : decode cX10_row 10 = .ok (.ifCond .ne 10, 3) := by decide +kernel
theorem dX10_row_13 : decode cX10_row 13 = .ok (.iload_n 3, 1) := by decide +kernel
theorem dX10_row_14 : decode cX10_row 14 = .ok (.ifCond .ge 6, 3) := by decide +kernel
theorem dX10_row_17 : decode cX10_row 17 = .ok (.iconst 3, 1) := by decide +kernel
theorem dX10_row_18 : decode cX10_row 18 = .ok (.istore 4, 2) := by decide +kernel
theorem dX10_row_20 : decode cX10_row 20 = .ok (.iload 4, 2) := by decide +kernel
theorem dX10_row_22 : decode cX10_row 22 = .ok (.ifCond .ne 22, 3) := by decide +kernel
theorem dX10_row_25 : decode cX10_row 25 = .ok (.iload_n 3, 1) := by decide +kernel
theorem dX10_row_26 : decode cX10_row 26 = .ok (.aload_n 0, 1) := by decide +kernel
theorem dX10_row_27 : decode cX10_row 27 = .ok (.getfield 11, 3) := by decide +kernel
theorem dX10_row_30 : decode cX10_row 30 = .ok (.iload_n 1, 1) := by decide +kernel
theorem dX10_row_31 : decode cX10_row 31 = .ok (.aaload, 1) := by decide +kernel
theorem dX10_row_32 : decode cX10_row 32 = .ok (.getfield 76, 3) := by decide +kernel
theorem dX10_row_35 : decode cX10_row 35 = .ok (.getfield 93, 3) := by decide +kernel
theorem dX10_row_38 : decode cX10_row 38 = .ok (.if_icmp .le 6, 3) := by decide +kernel
theorem dX10_row_41 : decode cX10_row 41 = .ok (.iconst 2, 1) := by decide +kernel
theorem dX10_row_42 : decode cX10_row 42 = .ok (.istore 4, 2) := by decide +kernel
theorem dX10_row_44 : decode cX10_row 44 = .ok (.iload 4, 2) := by decide +kernel
theorem dX10_row_46 : decode cX10_row 46 = .ok (.ifCond .eq 10, 3) := by decide +kernel
theorem dX10_row_49 : decode cX10_row 49 = .ok (.aload_n 0, 1) := by decide +kernel
theorem dX10_row_50 : decode cX10_row 50 = .ok (.iload 4, 2) := by decide +kernel
theorem dX10_row_52 : decode cX10_row 52 = .ok (.invokevirtual 73, 3) := by decide +kernel
theorem dX10_row_55 : decode cX10_row 55 = .ok (.ireturn, 1) := by decide +kernel
theorem dX10_row_56 : decode cX10_row 56 = .ok (.aload_n 0, 1) := by decide +kernel
theorem dX10_row_57 : decode cX10_row 57 = .ok (.getfield 11, 3) := by decide +kernel
theorem dX10_row_60 : decode cX10_row 60 = .ok (.iload_n 1, 1) := by decide +kernel
theorem dX10_row_61 : decode cX10_row 61 = .ok (.aaload, 1) := by decide +kernel
theorem dX10_row_62 : decode cX10_row 62 = .ok (.getfield 76, 3) := by decide +kernel
theorem dX10_row_65 : decode cX10_row 65 = .ok (.iload_n 2, 1) := by decide +kernel
theorem dX10_row_66 : decode cX10_row 66 = .ok (.iload_n 3, 1) := by decide +kernel
theorem dX10_row_67 : decode cX10_row 67 = .ok (.invokevirtual 96, 3) := by decide +kernel
theorem dX10_row_70 : decode cX10_row 70 = .ok (.aload_n 0, 1) := by decide +kernel
theorem dX10_row_71 : decode cX10_row 71 = .ok (.iload_n 3, 1) := by decide +kernel
theorem dX10_row_72 : decode cX10_row 72 = .ok (.invokevirtual 86, 3) := by decide +kernel
theorem dX10_row_75 : decode cX10_row 75 = .ok (.ireturn, 1) := by decide +kernel
def f_School_row_b44 (x1 : Int32) (x2 : Int32) (x3 : Int32) (x4 : Int32) (Q : Int32 → MI → MJ → Prop) (I : MI) (J : MJ) : Prop :=
  (if x4 = 0 then vp_in x1 16 ∧ f_Machine_newRow (1 + 64 + 7 * x1.toNatClampNeg + 1) x2 x3 I J (fun I67 J67 => f_School_done x3 I67 J67 (fun r72 I72 J72 => Q r72 I72 J72)) else f_School_refuse x4 I J (fun r52 I52 J52 => Q r52 I52 J52))
def f_School_row_b20 (x1 : Int32) (x2 : Int32) (x3 : Int32) (x4 : Int32) (Q : Int32 → MI → MJ → Prop) (I : MI) (J : MJ) : Prop :=
  (if x4 = 0 then vp_in x1 16 ∧ (if x3 ≤ (I (1 + 64 + 7 * x1.toNatClampNeg + 1) 2) then f_School_row_b44 x1 x2 x3 x4 Q I J else f_School_row_b44 x1 x2 x3 2 Q I J) else f_School_row_b44 x1 x2 x3 x4 Q I J)
def f_School_row (x1 : Int32) (x2 : Int32) (x3 : Int32) (I : MI) (J : MJ) (Q : Int32 → MI → MJ → Prop) : Prop :=
  f_School_looseRowFault x1 x2 I J (fun r3 I3 J3 => (if r3 = 0 then (if 0 ≤ x3 then f_School_row_b20 x1 x2 x3 r3 Q I3 J3 else f_School_row_b20 x1 x2 x3 3 Q I3 J3) else f_School_row_b20 x1 x2 x3 r3 Q I3 J3))
set_option maxRecDepth 100000 in
set_option maxHeartbeats 4000000 in
theorem w_School_row_b44 {Γ : Ctx} {Q : Int32 → MI → MJ → Prop} {x1 : Int32} {x2 : Int32} {x3 : Int32} {x4 : Int32}  (X : Cx Γ cX10_row 5 RX10 4) (Y : Rt Γ (Pi Q) (Option.some Jvm.ClassFile.FieldType.int))   {I : MI} {J : MJ} (h : f_School_row_b44 x1 x2 x3 x4 Q I J) : Wp Γ 5 44 [(0, .ref (ad Γ 0)), (1, .int x1), (2, .int x2), (3, .int x3), (4, .int x4)] [] I J := by
  unfold f_School_row_b44 at h
  refine wp_iload X dX10_row_44 4 rfl ?_
  refine wp_if_eq (tgt := 56) X dX10_row_46 (by decide) (fun hc => ?_) (fun hc => ?_)
  · have h := ite_t h hc
    refine wp_aload_n X dX10_row_56 0 rfl ?_
    refine gf_X10_11 (o' := 1) X sh_0 rfl dX10_row_57 ?_
    refine wp_iload_n X dX10_row_60 1 rfl ?_
    obtain ⟨hb61, h⟩ := h
    refine wp_aald X sh_1 hb61 dX10_row_61 ?_
    refine gf_X10_76 (o' := 1 + 64 + 7 * x1.toNatClampNeg + 1) X ((okP_at hb61).1) rfl dX10_row_62 ?_
    refine wp_iload_n X dX10_row_65 2 rfl ?_
    refine wp_iload_n X dX10_row_66 3 rfl ?_
    refine cv_Machine_newRow X dX10_row_67 ml_X10_96 ((okP_at hb61).2.1) h (Nat.le_of_ble_eq_true rfl) (by decide) (fun I67 J67 h => ?_)
    refine wp_aload_n X dX10_row_70 0 rfl ?_
    refine wp_iload_n X dX10_row_71 3 rfl ?_
    refine cv_School_done X dX10_row_72 ml_X10_86  h (Nat.le_of_ble_eq_true rfl) (by decide) (fun r72 I72 J72 h => ?_)
    exact wp_iret X Y dX10_row_75 ⟨_, rfl, h⟩
  · have h := ite_f h hc
    refine wp_aload_n X dX10_row_49 0 rfl ?_
    refine wp_iload X dX10_row_50 4 rfl ?_
    refine cv_School_refuse X dX10_row_52 ml_X10_73  h (Nat.le_of_ble_eq_true rfl) (by decide) (fun r52 I52 J52 h => ?_)
    exact wp_iret X Y dX10_row_55 ⟨_, rfl, h⟩

set_option maxRecDepth 100000 in
set_option maxHeartbeats 4000000 in
theorem w_School_row_b20 {Γ : Ctx} {Q : Int32 → MI → MJ → Prop} {x1 : Int32} {x2 : Int32} {x3 : Int32} {x4 : Int32}  (X : Cx Γ cX10_row 5 RX10 4) (Y : Rt Γ (Pi Q) (Option.some Jvm.ClassFile.FieldType.int))   {I : MI} {J : MJ} (h : f_School_row_b20 x1 x2 x3 x4 Q I J) : Wp Γ 5 20 [(0, .ref (ad Γ 0)), (1, .int x1), (2, .int x2), (3, .int x3), (4, .int x4)] [] I J := by
  unfold f_School_row_b20 at h
  refine wp_iload X dX10_row_20 4 rfl ?_
  refine wp_if_ne (tgt := 44) X dX10_row_22 (by decide) (fun hc => ?_) (fun hc => ?_)
  · have h := ite_f h hc
    exact w_School_row_b44 X Y  h
  · have h := ite_t h hc
    refine wp_iload_n X dX10_row_25 3 rfl ?_
    refine wp_aload_n X dX10_row_26 0 rfl ?_
    refine gf_X10_11 (o' := 1) X sh_0 rfl dX10_row_27 ?_
    refine wp_iload_n X dX10_row_30 1 rfl ?_
    obtain ⟨hb31, h⟩ := h
    refine wp_aald X sh_1 hb31 dX10_row_31 ?_
    refine gf_X10_76 (o' := 1 + 64 + 7 * x1.toNatClampNeg + 1) X ((okP_at hb31).1) rfl dX10_row_32 ?_
    refine gf_X10_93 X ((okP_at hb31).2.1.1) dX10_row_35 ?_
    refine wp_icmp_le (tgt := 44) X dX10_row_38 (by decide) (fun hc => ?_) (fun hc => ?_)
    · have h := ite_t h hc
      exact w_School_row_b44 X Y  h
    · have h := ite_f h hc
      refine wp_iconst X dX10_row_41 ic_2 ?_
      refine wp_istore (L' := [(4, .int 2), (0, .ref (ad Γ 0)), (1, .int x1), (2, .int x2), (3, .int x3)]) X dX10_row_42 (by decide) rfl ?_
      refine wp_sub X [1, 2, 3, 4, 0] rfl ?_
      exact w_School_row_b44 X Y  h

set_option maxRecDepth 100000 in
set_option maxHeartbeats 4000000 in
theorem w_School_row_b0 {Γ : Ctx} {Q : Int32 → MI → MJ → Prop} {x1 : Int32} {x2 : Int32} {x3 : Int32}  (X : Cx Γ cX10_row 5 RX10 4) (Y : Rt Γ (Pi Q) (Option.some Jvm.ClassFile.FieldType.int))   {I : MI} {J : MJ} (h : f_School_row x1 x2 x3 I J Q) : Wp Γ 5 0 [(0, .ref (ad Γ 0)), (1, .int x1), (2, .int x2), (3, .int x3)] [] I J := by
  unfold f_School_row at h
  refine wp_aload_n X dX10_row_0 0 rfl ?_
  refine wp_iload_n X dX10_row_1 1 rfl ?_
  refine wp_iload_n X dX10_row_2 2 rfl ?_
  refine cv_School_looseRowFault X dX10_row_3 ml_X10_89  h (Nat.le_of_ble_eq_true rfl) (by decide) (fun r3 I3 J3 h => ?_)
  refine wp_istore (L' := [(4, .int r3), (0, .ref (ad Γ 0)), (1, .int x1), (2, .int x2), (3, .int x3)]) X dX10_row_6 (by decide) rfl ?_
  refine wp_iload X dX10_row_8 0 rfl ?_
  refine wp_if_ne (tgt := 20) X dX10_row_10 (by decide) (fun hc => ?_) (fun hc => ?_)
  · have h := ite_f h hc
    refine wp_sub X [1, 2, 3, 4, 0] rfl ?_
    exact w_School_row_b20 X Y  h
  · have h := ite_t h hc
    refine wp_iload_n X dX10_row_13 4 rfl ?_
    refine wp_if_ge (tgt := 20) X dX10_row_14 (by decide) (fun hc => ?_) (fun hc => ?_)
    · have h := ite_t h hc
      refine wp_sub X [1, 2, 3, 4, 0] rfl ?_
      exact w_School_row_b20 X Y  h
    · have h := ite_f h hc
      refine wp_iconst X dX10_row_17 ic_3 ?_
      refine wp_istore (L' := [(4, .int 3), (0, .ref (ad Γ 0)), (1, .int x1), (2, .int x2), (3, .int x3)]) X dX10_row_18 (by decide) rfl ?_
      refine wp_sub X [1, 2, 3, 4, 0] rfl ?_
      exact w_School_row_b20 X Y  h

theorem c_School_row {l : Launch} {g : GE} (hg : Inj g) {I : MI} {J : MJ} {Q : Int32 → MI → MJ → Prop} {x1 : Int32} {x2 : Int32} {x3 : Int32}  (h : f_School_row x1 x2 x3 I J Q) : Cm l g yX10_row cX10_row 5 (Option.some Jvm.ClassFile.FieldType.int) 4 [.ref (g.1 0), .int x1, .int x2, .int x3] I J (Pi Q) := by
  refine Cm.of (As := fun ad => [.ref (ad 0), .int x1, .int x2, .int x3]) hg pn_X10 (Nat.le_of_ble_eq_true rfl) ?_
  exact (fun Γ _ _ X Y => w_School_row_b0 X Y  h)
theorem cv_School_row {Γ : Ctx} {cc : ByteArray} {nL d pc index : Nat} {own : String} {L : List (Nat × Value)} {rest : List Value} {I : MI} {J : MJ} {Q : Int32 → MI → MJ → Prop} {x1 : Int32} {x2 : Int32} {x3 : Int32} (X : Cx Γ cc nL own d) (hd : decode cc pc = .ok (.invokevirtual index, 3)) (hlink : Cond.methodLink own index yX10_row ∈ TT)  (h : f_School_row x1 x2 x3 I J Q) (hrest : (rest.map fun v => v.category).sum ≤ 8) (hdd : 4 + 1 ≤ d) (kk : ∀ (r : Int32) (I' : MI) (J' : MJ), Q r I' J' → Wp Γ nL (pc + 3) L (.int r :: rest) I' J') : Wp Γ nL pc L (.int x3 :: .int x2 :: .int x1 :: .ref (ad Γ 0) :: rest) I J :=
  wp_callV (As := [.int x1, .int x2, .int x3]) (rest := rest) (T := TX10) (N := 9) X hd hlink mv_X10_row sh_0 (by decide) rfl (c_School_row X.inj  h) rfl rfl hrest hdd (fun v I' J' hv => by obtain ⟨r, rfl, hq⟩ := hv; exact kk r I' J' hq)
theorem dX10_cut_0 : decode cX10_cut 0 = .ok (.aload_n 0, 1) := by decide +kernel
theorem dX10_cut_1 : decode cX10_cut 1 = .ok (.iload_n 1, 1) := by decide +kernel
theorem dX10_cut_2 : decode cX10_cut 2 = .ok (.iload_n 2, 1) := by decide +kernel
theorem dX10_cut_3 : decode cX10_cut 3 = .ok (.invokevirtual 89, 3) := by decide +kernel
theorem dX10_cut_6 : decode cX10_cut 6 = .ok (.istore_n 3, 1) := by decide +kernel
theorem dX10_cut_7 : decode cX10_cut 7 = .ok (.iload_n 3, 1) := by decide +kernel
theorem dX10_cut_8 : decode cX10_cut 8 = .ok (.ifCond .eq 9, 3) := by decide +kernel
theorem dX10_cut_11 : decode cX10_cut 11 = .ok (.aload_n 0, 1) := by decide +kernel
theorem dX10_cut_12 : decode cX10_cut 12 = .ok (.iload_n 3, 1) := by decide +kernel
theorem dX10_cut_13 : decode cX10_cut 13 = .ok (.invokevirtual 73, 3) := by decide +kernel
theorem dX10_cut_16 : decode cX10_cut 16 = .ok (.ireturn, 1) := by decide +kernel
theorem dX10_cut_17 : decode cX10_cut 17 = .ok (.aload_n 0, 1) := by decide +kernel
theorem dX10_cut_18 : decode cX10_cut 18 = .ok (.getfield 11, 3) := by decide +kernel
theorem dX10_cut_21 : decode cX10_cut 21 = .ok (.iload_n 1, 1) := by decide +kernel
theorem dX10_cut_22 : decode cX10_cut 22 = .ok (.aaload, 1) := by decide +kernel
theorem dX10_cut_23 : decode cX10_cut 23 = .ok (.getfield 76, 3) := by decide +kernel
theorem dX10_cut_26 : decode cX10_cut 26 = .ok (.iload_n 2, 1) := by decide +kernel
theorem dX10_cut_27 : decode cX10_cut 27 = .ok (.iconst (-1), 1) := by decide +kernel
theorem dX10_cut_28 : decode cX10_cut 28 = .ok (.invokevirtual 96, 3) := by decide +kernel
theorem dX10_cut_31 : decode cX10_cut 31 = .ok (.aload_n 0, 1) := by decide +kernel
theorem dX10_cut_32 : decode cX10_cut 32 = .ok (.iconst 0, 1) := by decide +kernel
theorem dX10_cut_33 : decode cX10_cut 33 = .ok (.invokevirtual 86, 3) := by decide +kernel
theorem dX10_cut_36 : decode cX10_cut 36 = .ok (.ireturn, 1) := by decide +kernel
def f_School_cut (x1 : Int32) (x2 : Int32) (I : MI) (J : MJ) (Q : Int32 → MI → MJ → Prop) : Prop :=
  f_School_looseRowFault x1 x2 I J (fun r3 I3 J3 => (if r3 = 0 then vp_in x1 16 ∧ f_Machine_newRow (1 + 64 + 7 * x1.toNatClampNeg + 1) x2 (-1 : Int32) I3 J3 (fun I28 J28 => f_School_done (0 : Int32) I28 J28 (fun r33 I33 J33 => Q r33 I33 J33)) else f_School_refuse r3 I3 J3 (fun r13 I13 J13 => Q r13 I13 J13)))
set_option maxRecDepth 100000 in
set_option maxHeartbeats 4000000 in
theorem w_School_cut_b0 {Γ : Ctx} {Q : Int32 → MI → MJ → Prop} {x1 : Int32} {x2 : Int32}  (X : Cx Γ cX10_cut 4 RX10 4) (Y : Rt Γ (Pi Q) (Option.some Jvm.ClassFile.FieldType.int))   {I : MI} {J : MJ} (h : f_School_cut x1 x2 I J Q) : Wp Γ 4 0 [(0, .ref (ad Γ 0)), (1, .int x1), (2, .int x2)] [] I J := by
  unfold f_School_cut at h
  refine wp_aload_n X dX10_cut_0 0 rfl ?_
  refine wp_iload_n X dX10_cut_1 1 rfl ?_
  refine wp_iload_n X dX10_cut_2 2 rfl ?_
  refine cv_School_looseRowFault X dX10_cut_3 ml_X10_89  h (Nat.le_of_ble_eq_true rfl) (by decide) (fun r3 I3 J3 h => ?_)
  refine wp_istore_n (L' := [(3, .int r3), (0, .ref (ad Γ 0)), (1, .int x1), (2, .int x2)]) X dX10_cut_6 rfl (by decide) rfl ?_
  refine wp_iload_n X dX10_cut_7 0 rfl ?_
  refine wp_if_eq (tgt := 17) X dX10_cut_8 (by decide) (fun hc => ?_) (fun hc => ?_)
  · have h := ite_t h hc
    refine wp_aload_n X dX10_cut_17 1 rfl ?_
    refine gf_X10_11 (o' := 1) X sh_0 rfl dX10_cut_18 ?_
    refine wp_iload_n X dX10_cut_21 2 rfl ?_
    obtain ⟨hb22, h⟩ := h
    refine wp_aald X sh_1 hb22 dX10_cut_22 ?_
    refine gf_X10_76 (o' := 1 + 64 + 7 * x1.toNatClampNeg + 1) X ((okP_at hb22).1) rfl dX10_cut_23 ?_
    refine wp_iload_n X dX10_cut_26 3 rfl ?_
    refine wp_iconst X dX10_cut_27 ic_m1 ?_
    refine cv_Machine_newRow X dX10_cut_28 ml_X10_96 ((okP_at hb22).2.1) h (Nat.le_of_ble_eq_true rfl) (by decide) (fun I28 J28 h => ?_)
    refine wp_aload_n X dX10_cut_31 1 rfl ?_
    refine wp_iconst X dX10_cut_32 ic_0 ?_
    refine cv_School_done X dX10_cut_33 ml_X10_86  h (Nat.le_of_ble_eq_true rfl) (by decide) (fun r33 I33 J33 h => ?_)
    exact wp_iret X Y dX10_cut_36 ⟨_, rfl, h⟩
  · have h := ite_f h hc
    refine wp_aload_n X dX10_cut_11 1 rfl ?_
    refine wp_iload_n X dX10_cut_12 0 rfl ?_
    refine cv_School_refuse X dX10_cut_13 ml_X10_73  h (Nat.le_of_ble_eq_true rfl) (by decide) (fun r13 I13 J13 h => ?_)
    exact wp_iret X Y dX10_cut_16 ⟨_, rfl, h⟩

theorem c_School_cut {l : Launch} {g : GE} (hg : Inj g) {I : MI} {J : MJ} {Q : Int32 → MI → MJ → Prop} {x1 : Int32} {x2 : Int32}  (h : f_School_cut x1 x2 I J Q) : Cm l g yX10_cut cX10_cut 4 (Option.some Jvm.ClassFile.FieldType.int) 4 [.ref (g.1 0), .int x1, .int x2] I J (Pi Q) := by
  refine Cm.of (As := fun ad => [.ref (ad 0), .int x1, .int x2]) hg pn_X10 (Nat.le_of_ble_eq_true rfl) ?_
  exact (fun Γ _ _ X Y => w_School_cut_b0 X Y  h)
theorem cv_School_cut {Γ : Ctx} {cc : ByteArray} {nL d pc index : Nat} {own : String} {L : List (Nat × Value)} {rest : List Value} {I : MI} {J : MJ} {Q : Int32 → MI → MJ → Prop} {x1 : Int32} {x2 : Int32} (X : Cx Γ cc nL own d) (hd : decode cc pc = .ok (.invokevirtual index, 3)) (hlink : Cond.methodLink own index yX10_cut ∈ TT)  (h : f_School_cut x1 x2 I J Q) (hrest : (rest.map fun v => v.category).sum ≤ 8) (hdd : 4 + 1 ≤ d) (kk : ∀ (r : Int32) (I' : MI) (J' : MJ), Q r I' J' → Wp Γ nL (pc + 3) L (.int r :: rest) I' J') : Wp Γ nL pc L (.int x2 :: .int x1 :: .ref (ad Γ 0) :: rest) I J :=
  wp_callV (As := [.int x1, .int x2]) (rest := rest) (T := TX10) (N := 9) X hd hlink mv_X10_cut sh_0 (by decide) rfl (c_School_cut X.inj  h) rfl rfl hrest hdd (fun v I' J' hv => by obtain ⟨r, rfl, hq⟩ := hv; exact kk r I' J' hq)
theorem dX3_hasTake_0 : decode cX3_hasTake 0 = .ok (.iload_n 1, 1) := by decide +kernel
theorem dX3_hasTake_1 : decode cX3_hasTake 1 = .ok (.ifCond .lt 29, 3) := by decide +kernel
theorem dX3_hasTake_4 : decode cX3_hasTake 4 = .ok (.iload_n 1, 1) := by decide +kernel
theorem dX3_hasTake_5 : decode cX3_hasTake 5 = .ok (.aload_n 0, 1) := by decide +kernel
theorem dX3_hasTake_6 : decode cX3_hasTake 6 = .ok (.getfield 28, 3) := by decide +kernel
theorem dX3_hasTake_9 : decode cX3_hasTake 9 = .ok (.if_icmp .ge 21, 3) := by decide +kernel
theorem dX3_hasTake_12 : decode cX3_hasTake 12 = .ok (.iload_n 2, 1) := by decide +kernel
theorem dX3_hasTake_13 : decode cX3_hasTake 13 = .ok (.ifCond .lt 17, 3) := by decide +kernel
theorem dX3_hasTake_16 : decode cX3_hasTake 16 = .ok (.iload_n 2, 1) := by decide +kernel
theorem dX3_hasTake_17 : decode cX3_hasTake 17 = .ok (.aload_n 0, 1) := by decide +kernel
theorem dX3_hasTake_18 : decode cX3_hasTake 18 = .ok (.getfield 9, 3) := by decide +kernel
theorem dX3_hasTake_21 : decode cX3_hasTake 21 = .ok (.iload_n 1, 1) := by decide +kernel
theorem dX3_hasTake_22 : decode cX3_hasTake 22 = .ok (.iaload, 1) := by decide +kernel
theorem dX3_hasTake_23 : decode cX3_hasTake 23 = .ok (.if_icmp .ge 7, 3) := by decide +kernel
theorem dX3_hasTake_26 : decode cX3_hasTake 26 = .ok (.iconst 1, 1) := by decide +kernel
theorem dX3_hasTake_27 : decode cX3_hasTake 27 = .ok (.goto 4, 3) := by decide +kernel
theorem dX3_hasTake_30 : decode cX3_hasTake 30 = .ok (.iconst 0, 1) := by decide +kernel
theorem dX3_hasTake_31 : decode cX3_hasTake 31 = .ok (.ireturn, 1) := by decide +kernel
def f_Machine_hasTake (o : Nat) (x1 : Int32) (x2 : Int32) (I : MI) (J : MJ) (Q : Int32 → MI → MJ → Prop) : Prop :=
  (if x1 < 0 then Q 0 I J else (if (I o 1) ≤ x1 then Q 0 I J else (if x2 < 0 then Q 0 I J else vp_in x1 14 ∧ (if (I (o + 1) x1.toNatClampNeg) ≤ x2 then Q 0 I J else Q 1 I J))))
set_option maxRecDepth 100000 in
set_option maxHeartbeats 4000000 in
theorem w_Machine_hasTake_b0 {Γ : Ctx} {Q : Int32 → MI → MJ → Prop} {o : Nat} {x1 : Int32} {x2 : Int32}  (X : Cx Γ cX3_hasTake 3 RX3 0) (Y : Rt Γ (Pi Q) (Option.some Jvm.ClassFile.FieldType.boolean)) (ho : okM o)  {I : MI} {J : MJ} (h : f_Machine_hasTake o x1 x2 I J Q) : Wp Γ 3 0 [(0, .ref (ad Γ o)), (1, .int x1), (2, .int x2)] [] I J := by
  unfold f_Machine_hasTake at h
  refine wp_iload_n X dX3_hasTake_0 1 rfl ?_
  refine wp_if_lt (tgt := 30) X dX3_hasTake_1 (by decide) (fun hc => ?_) (fun hc => ?_)
  · have h := ite_t h hc
    refine wp_iconst X dX3_hasTake_30 ic_0 ?_
    exact wp_zret X Y dX3_hasTake_31 (by decide) ⟨_, rfl, h⟩
  · have h := ite_f h hc
    refine wp_iload_n X dX3_hasTake_4 1 rfl ?_
    refine wp_aload_n X dX3_hasTake_5 0 rfl ?_
    refine gf_X3_28 X ho.1 dX3_hasTake_6 ?_
    refine wp_icmp_ge (tgt := 30) X dX3_hasTake_9 (by decide) (fun hc => ?_) (fun hc => ?_)
    · have h := ite_t h hc
      refine wp_iconst X dX3_hasTake_30 ic_0 ?_
      exact wp_zret X Y dX3_hasTake_31 (by decide) ⟨_, rfl, h⟩
    · have h := ite_f h hc
      refine wp_iload_n X dX3_hasTake_12 2 rfl ?_
      refine wp_if_lt (tgt := 30) X dX3_hasTake_13 (by decide) (fun hc => ?_) (fun hc => ?_)
      · have h := ite_t h hc
        refine wp_iconst X dX3_hasTake_30 ic_0 ?_
        exact wp_zret X Y dX3_hasTake_31 (by decide) ⟨_, rfl, h⟩
      · have h := ite_f h hc
        refine wp_iload_n X dX3_hasTake_16 2 rfl ?_
        refine wp_aload_n X dX3_hasTake_17 0 rfl ?_
        refine gf_X3_9 (o' := o + 1) X ho.1 rfl dX3_hasTake_18 ?_
        refine wp_iload_n X dX3_hasTake_21 1 rfl ?_
        obtain ⟨hb22, h⟩ := h
        refine wp_iald X ho.2.1 hb22 dX3_hasTake_22 ?_
        refine wp_icmp_ge (tgt := 30) X dX3_hasTake_23 (by decide) (fun hc => ?_) (fun hc => ?_)
        · have h := ite_t h hc
          refine wp_iconst X dX3_hasTake_30 ic_0 ?_
          exact wp_zret X Y dX3_hasTake_31 (by decide) ⟨_, rfl, h⟩
        · have h := ite_f h hc
          refine wp_iconst X dX3_hasTake_26 ic_1 ?_
          refine wp_goto (tgt := 31) X dX3_hasTake_27 (by decide) ?_
          exact wp_zret X Y dX3_hasTake_31 (by decide) ⟨_, rfl, h⟩

theorem c_Machine_hasTake {l : Launch} {g : GE} (hg : Inj g) {I : MI} {J : MJ} {Q : Int32 → MI → MJ → Prop} {o : Nat} {x1 : Int32} {x2 : Int32} (ho : okM o) (h : f_Machine_hasTake o x1 x2 I J Q) : Cm l g yX3_hasTake cX3_hasTake 3 (Option.some Jvm.ClassFile.FieldType.boolean) 0 [.ref (g.1 o), .int x1, .int x2] I J (Pi Q) := by
  refine Cm.of (As := fun ad => [.ref (ad o), .int x1, .int x2]) hg pn_X3 (Nat.le_of_ble_eq_true rfl) ?_
  exact (fun Γ _ _ X Y => w_Machine_hasTake_b0 X Y ho h)
theorem cv_Machine_hasTake {Γ : Ctx} {cc : ByteArray} {nL d pc index : Nat} {own : String} {L : List (Nat × Value)} {rest : List Value} {I : MI} {J : MJ} {Q : Int32 → MI → MJ → Prop} {o : Nat} {x1 : Int32} {x2 : Int32} (X : Cx Γ cc nL own d) (hd : decode cc pc = .ok (.invokevirtual index, 3)) (hlink : Cond.methodLink own index yX3_hasTake ∈ TT) (ho : okM o) (h : f_Machine_hasTake o x1 x2 I J Q) (hrest : (rest.map fun v => v.category).sum ≤ 8) (hdd : 0 + 1 ≤ d) (kk : ∀ (r : Int32) (I' : MI) (J' : MJ), Q r I' J' → Wp Γ nL (pc + 3) L (.int r :: rest) I' J') : Wp Γ nL pc L (.int x2 :: .int x1 :: .ref (ad Γ o) :: rest) I J :=
  wp_callV (As := [.int x1, .int x2]) (rest := rest) (T := TX3) (N := 7) X hd hlink mv_X3_hasTake ho.1 (by decide) rfl (c_Machine_hasTake X.inj ho h) rfl rfl hrest hdd (fun v I' J' hv => by obtain ⟨r, rfl, hq⟩ := hv; exact kk r I' J' hq)
theorem dX10_takeFault_0 : decode cX10_takeFault 0 = .ok (.aload_n 0, 1) := by decide +kernel
theorem dX10_takeFault_1 : decode cX10_takeFault 1 = .ok (.iload_n 1, 1) := by decide +kernel
theorem dX10_takeFault_2 : decode cX10_takeFault 2 = .ok (.invokevirtual 118, 3) := by decide +kernel
theorem dX10_takeFault_5 : decode cX10_takeFault 5 = .ok (.ifCond .ne 5, 3) := by decide +kernel
theorem dX10_takeFault_8 : decode cX10_takeFault 8 = .ok (.iconst 2, 1) := by decide +kernel
theorem dX10_takeFault_9 : decode cX10_takeFault 9 = .ok (.ireturn, 1) := by decide +kernel
theorem dX10_takeFault_10 : decode cX10_takeFault 10 = .ok (.aload_n 0, 1) := by decide +kernel
theorem dX10_takeFault_11 : decode cX10_takeFault 11 = .ok (.getfield 313, 3) := by decide +kernel
theorem dX10_takeFault_14 : decode cX10_takeFault 14 = .ok (.iload_n 1, 1) := by decide +kernel
theorem dX10_takeFault_15 : decode cX10_takeFault 15 = .ok (.iaload, 1) := by decide +kernel
theorem dX10_takeFault_16 : decode cX10_takeFault 16 = .ok (.iconst (-1), 1) := by decide +kernel
theorem dX10_takeFault_17 : decode cX10_takeFault 17 = .ok (.if_icmp .ne 5, 3) := by decide +kernel
theorem dX10_takeFault_20 : decode cX10_takeFault 20 = .ok (.iconst 1, 1) := by decide +kernel
theorem dX10_takeFault_21 : decode cX10_takeFault 21 = .ok (.ireturn, 1) := by decide +kernel
theorem dX10_takeFault_22 : decode cX10_takeFault 22 = .ok (.aload_n 0, 1) := by decide +kernel
theorem dX10_takeFault_23 : decode cX10_takeFault 23 = .ok (.iload_n 1, 1) := by decide +kernel
theorem dX10_takeFault_24 : decode cX10_takeFault 24 = .ok (.iload_n 2, 1) := by decide +kernel
theorem dX10_takeFault_25 : decode cX10_takeFault 25 = .ok (.invokevirtual 166, 3) := by decide +kernel
theorem dX10_takeFault_28 : decode cX10_takeFault 28 = .ok (.ifCond .eq 7, 3) := by decide +kernel
theorem dX10_takeFault_31 : decode cX10_takeFault 31 = .ok (.iconst 0, 1) := by decide +kernel
theorem dX10_takeFault_32 : decode cX10_takeFault 32 = .ok (.goto 4, 3) := by decide +kernel
theorem dX10_takeFault_35 : decode cX10_takeFault 35 = .ok (.iconst 2, 1) := by decide +kernel
theorem dX10_takeFault_36 : decode cX10_takeFault 36 = .ok (.ireturn, 1) := by decide +kernel
def f_School_takeFault (x0 : Nat) (x1 : Int32) (x2 : Int32) (I : MI) (J : MJ) (Q : Int32 → MI → MJ → Prop) : Prop :=
  f_Machine_hasState x0 x1 I J (fun r2 I2 J2 => (if r2 = 0 then Q 2 I2 J2 else vp_in x1 14 ∧ (if (I2 (x0 + 1) x1.toNatClampNeg) = (-1) then Q 1 I2 J2 else f_Machine_hasTake x0 x1 x2 I2 J2 (fun r25 I25 J25 => (if r25 = 0 then Q 2 I25 J25 else Q 0 I25 J25)))))
set_option maxRecDepth 100000 in
set_option maxHeartbeats 4000000 in
theorem w_School_takeFault_b0 {Γ : Ctx} {Q : Int32 → MI → MJ → Prop} {x0 : Nat} {x1 : Int32} {x2 : Int32}  (X : Cx Γ cX10_takeFault 3 RX10 1) (Y : Rt Γ (Pi Q) (Option.some Jvm.ClassFile.FieldType.int)) (hx0 : okM x0)  {I : MI} {J : MJ} (h : f_School_takeFault x0 x1 x2 I J Q) : Wp Γ 3 0 [(0, .ref (ad Γ x0)), (1, .int x1), (2, .int x2)] [] I J := by
  unfold f_School_takeFault at h
  refine wp_aload_n X dX10_takeFault_0 0 rfl ?_
  refine wp_iload_n X dX10_takeFault_1 1 rfl ?_
  refine cv_Machine_hasState X dX10_takeFault_2 ml_X10_118 hx0 h (Nat.le_of_ble_eq_true rfl) (by decide) (fun r2 I2 J2 h => ?_)
  refine wp_if_ne (tgt := 10) X dX10_takeFault_5 (by decide) (fun hc => ?_) (fun hc => ?_)
  · have h := ite_f h hc
    refine wp_aload_n X dX10_takeFault_10 0 rfl ?_
    refine gf_X10_313 (o' := x0 + 1) X hx0.1 rfl dX10_takeFault_11 ?_
    refine wp_iload_n X dX10_takeFault_14 1 rfl ?_
    obtain ⟨hb15, h⟩ := h
    refine wp_iald X hx0.2.1 hb15 dX10_takeFault_15 ?_
    refine wp_iconst X dX10_takeFault_16 ic_m1 ?_
    refine wp_icmp_ne (tgt := 22) X dX10_takeFault_17 (by decide) (fun hc => ?_) (fun hc => ?_)
    · have h := ite_f h hc
      refine wp_aload_n X dX10_takeFault_22 0 rfl ?_
      refine wp_iload_n X dX10_takeFault_23 1 rfl ?_
      refine wp_iload_n X dX10_takeFault_24 2 rfl ?_
      refine cv_Machine_hasTake X dX10_takeFault_25 ml_X10_166 hx0 h (Nat.le_of_ble_eq_true rfl) (by decide) (fun r25 I25 J25 h => ?_)
      refine wp_if_eq (tgt := 35) X dX10_takeFault_28 (by decide) (fun hc => ?_) (fun hc => ?_)
      · have h := ite_t h hc
        refine wp_iconst X dX10_takeFault_35 ic_2 ?_
        exact wp_iret X Y dX10_takeFault_36 ⟨_, rfl, h⟩
      · have h := ite_f h hc
        refine wp_iconst X dX10_takeFault_31 ic_0 ?_
        refine wp_goto (tgt := 36) X dX10_takeFault_32 (by decide) ?_
        exact wp_iret X Y dX10_takeFault_36 ⟨_, rfl, h⟩
    · have h := ite_t h hc
      refine wp_iconst X dX10_takeFault_20 ic_1 ?_
      exact wp_iret X Y dX10_takeFault_21 ⟨_, rfl, h⟩
  · have h := ite_t h hc
    refine wp_iconst X dX10_takeFault_8 ic_2 ?_
    exact wp_iret X Y dX10_takeFault_9 ⟨_, rfl, h⟩

theorem c_School_takeFault {l : Launch} {g : GE} (hg : Inj g) {I : MI} {J : MJ} {Q : Int32 → MI → MJ → Prop} {x0 : Nat} {x1 : Int32} {x2 : Int32} (hx0 : okM x0) (h : f_School_takeFault x0 x1 x2 I J Q) : Cm l g yX10_takeFault cX10_takeFault 3 (Option.some Jvm.ClassFile.FieldType.int) 1 [.ref (g.1 x0), .int x1, .int x2] I J (Pi Q) := by
  refine Cm.of (As := fun ad => [.ref (ad x0), .int x1, .int x2]) hg pn_X10 (Nat.le_of_ble_eq_true rfl) ?_
  exact (fun Γ _ _ X Y => w_School_takeFault_b0 X Y hx0 h)
theorem cs_School_takeFault {Γ : Ctx} {cc : ByteArray} {nL d pc index : Nat} {own : String} {L : List (Nat × Value)} {rest : List Value} {I : MI} {J : MJ} {Q : Int32 → MI → MJ → Prop} {x0 : Nat} {x1 : Int32} {x2 : Int32} (X : Cx Γ cc nL own d) (hd : decode cc pc = .ok (.invokestatic index, 3)) (hlink : Cond.methodLink own index yX10_takeFault ∈ TT) (hx0 : okM x0) (h : f_School_takeFault x0 x1 x2 I J Q) (hrest : (rest.map fun v => v.category).sum ≤ 8) (hdd : 1 + 1 ≤ d) (kk : ∀ (r : Int32) (I' : MI) (J' : MJ), Q r I' J' → Wp Γ nL (pc + 3) L (.int r :: rest) I' J') : Wp Γ nL pc L (.int x2 :: .int x1 :: .ref (ad Γ x0) :: rest) I J :=
  wp_callS (As := [.ref (ad Γ x0), .int x1, .int x2]) (rest := rest) X hd hlink mv_X10_takeFault (c_School_takeFault X.inj hx0 h) rfl rfl hrest hdd (fun v I' J' hv => by obtain ⟨r, rfl, hq⟩ := hv; exact kk r I' J' hq)
theorem dX10_take_0 : decode cX10_take 0 = .ok (.aload_n 0, 1) := by decide +kernel
theorem dX10_take_1 : decode cX10_take 1 = .ok (.iload_n 1, 1) := by decide +kernel
theorem dX10_take_2 : decode cX10_take 2 = .ok (.invokevirtual 100, 3) := by decide +kernel
theorem dX10_take_5 : decode cX10_take 5 = .ok (.istore 5, 2) := by decide +kernel
theorem dX10_take_7 : decode cX10_take 7 = .ok (.iload 5, 2) := by decide +kernel
theorem dX10_take_9 : decode cX10_take 9 = .ok (.ifCond .ne 19, 3) := by decide +kernel
theorem dX10_take_12 : decode cX10_take 12 = .ok (.aload_n 0, 1) := by decide +kernel
theorem dX10_take_13 : decode cX10_take 13 = .ok (.getfield 11, 3) := by decide +kernel
theorem dX10_take_16 : decode cX10_take 16 = .ok (.iload_n 1, 1) := by decide +kernel
theorem dX10_take_17 : decode cX10_take 17 = .ok (.aaload, 1) := by decide +kernel
theorem dX10_take_18 : decode cX10_take 18 = .ok (.getfield 76, 3) := by decide +kernel
theorem dX10_take_21 : decode cX10_take 21 = .ok (.iload_n 2, 1) := by decide +kernel
theorem dX10_take_22 : decode cX10_take 22 = .ok (.iload_n 3, 1) := by decide +kernel
theorem dX10_take_23 : decode cX10_take 23 = .ok (.invokestatic 103, 3) := by decide +kernel
theorem dX10_take_26 : decode cX10_take 26 = .ok (.istore 5, 2) := by decide +kernel
theorem dX10_take_28 : decode cX10_take 28 = .ok (.iload 5, 2) := by decide +kernel
theorem dX10_take_30 : decode cX10_take 30 = .ok (.ifCond .ne 29, 3) := by decide +kernel
theorem dX10_take_33 : decode cX10_take 33 = .ok (.iload 4, 2) := by decide +kernel
theorem dX10_take_35 : decode cX10_take 35 = .ok (.iconst (-1), 1) := by decide +kernel
theorem dX10_take_36 : decode cX10_take 36 = .ok (.if_icmp .lt 20, 3) := by decide +kernel
theorem dX10_take_39 : decode cX10_take 39 = .ok (.iload 4, 2) := by decide +kernel
theorem dX10_take_41 : decode cX10_take 41 = .ok (.aload_n 0, 1) := by decide +kernel
theorem dX10_take_42 : decode cX10_take 42 = .ok (.getfield 11, 3) := by decide +kernel
theorem dX10_take_45 : decode cX10_take 45 = .ok (.iload_n 1, 1) := by decide +kernel
theorem dX10_take_46 : decode cX10_take 46 = .ok (.aaload, 1) := by decide +kernel
theorem dX10_take_47 : decode cX10_take 47 = .ok (.getfield 76, 3) := by decide +kernel
theorem dX10_take_50 : decode cX10_take 50 = .ok (.getfield 107, 3) := by decide +kernel
theorem dX10_take_53 : decode cX10_take 53 = .ok (.if_icmp .lt 6, 3) := by decide +kernel
theorem dX10_take_56 : decode cX10_take 56 = .ok (.iconst 2, 1) := by decide +kernel
theorem dX10_take_57 : decode cX10_take 57 = .ok (.istore 5, 2) := by decide +kernel
theorem dX10_take_59 : decode cX10_take 59 = .ok (.iload 5, 2) := by decide +kernel
theorem dX10_take_61 : decode cX10_take 61 = .ok (.ifCond .ne 27, 3) := by decide +kernel
theorem dX10_take_64 : decode cX10_take 64 = .ok (.iload 4, 2) := by decide +kernel
theorem dX10_take_66 : decode cX10_take 66 = .ok (.iconst (-1), 1) := by decide +kernel
theorem dX10_take_67 : decode cX10_take 67 = .ok (.if_icmp .ne 21, 3) := by decide +kernel
theorem dX10_take_70 : decode cX10_take 70 = .ok (.aload_n 0, 1) := by decide +kernel
theorem dX10_take_71 : decode cX10_take 71 = .ok (.getfield 11, 3) := by decide +kernel
theorem dX10_take_74 : decode cX10_take 74 = .ok (.iload_n 1, 1) := by decide +kernel
theorem dX10_take_75 : decode cX10_take 75 = .ok (.aaload, 1) := by decide +kernel
theorem dX10_take_76 : decode cX10_take 76 = .ok (.getfield 76, 3) := by decide +kernel
theorem dX10_take_79 : decode cX10_take 79 = .ok (.invokevirtual 110, 3) := by decide +kernel
theorem dX10_take_82 : decode cX10_take 82 = .ok (.ifCond .eq 6, 3) := by decide +kernel
theorem dX10_take_85 : decode cX10_take 85 = .ok (.iconst 4, 1) := by decide +kernel
theorem dX10_take_86 : decode cX10_take 86 = .ok (.istore 5, 2) := by decide +kernel
theorem dX10_take_88 : decode cX10_take 88 = .ok (.iload 5, 2) := by decide +kernel
theorem dX10_take_90 : decode cX10_take 90 = .ok (.ifCond .eq 10, 3) := by decide +kernel
theorem dX10_take_93 : decode cX10_take 93 = .ok (.aload_n 0, 1) := by decide +kernel
theorem dX10_take_94 : decode cX10_take 94 = .ok (.iload 5, 2) := by decide +kernel
theorem dX10_take_96 : decode cX10_take 96 = .ok (.invokevirtual 73, 3) := by decide +kernel
theorem dX10_take_99 : decode cX10_take 99 = .ok (.ireturn, 1) := by decide +kernel
theorem dX10_take_100 : decode cX10_take 100 = .ok (.aload_n 0, 1) := by decide +kernel
theorem dX10_take_101 : decode cX10_take 101 = .ok (.getfield 11, 3) := by decide +kernel
theorem dX10_take_104 : decode cX10_take 104 = .ok (.iload_n 1, 1) := by decide +kernel
theorem dX10_take_105 : decode cX10_take 105 = .ok (.aaload, 1) := by decide +kernel
theorem dX10_take_106 : decode cX10_take 106 = .ok (.getfield 76, 3) := by decide +kernel
theorem dX10_take_109 : decode cX10_take 109 = .ok (.getfield 114, 3) := by decide +kernel
theorem dX10_take_112 : decode cX10_take 112 = .ok (.iload_n 2, 1) := by decide +kernel
theorem dX10_take_113 : decode cX10_take 113 = .ok (.iconst 4, 1) := by decide +kernel
theorem dX10_take_114 : decode cX10_take 114 = .ok (.imul, 1) := by decide +kernel
theorem dX10_take_115 : decode cX10_take 115 = .ok (.iload_n 3, 1) := by decide +kernel
theorem dX10_take_116 : decode cX10_take 116 = .ok (.iadd, 1) := by decide +kernel
theorem dX10_take_117 : decode cX10_take 117 = .ok (.iload 4, 2) := by decide +kernel
theorem dX10_take_119 : decode cX10_take 119 = .ok (.iastore, 1) := by decide +kernel
theorem dX10_take_120 : decode cX10_take 120 = .ok (.aload_n 0, 1) := by decide +kernel
theorem dX10_take_121 : decode cX10_take 121 = .ok (.iconst 0, 1) := by decide +kernel
theorem dX10_take_122 : decode cX10_take 122 = .ok (.invokevirtual 86, 3) := by decide +kernel
theorem dX10_take_125 : decode cX10_take 125 = .ok (.ireturn, 1) := by decide +kernel
def f_School_take_b88 (x1 : Int32) (x2 : Int32) (x3 : Int32) (x4 : Int32) (x5 : Int32) (Q : Int32 → MI → MJ → Prop) (I : MI) (J : MJ) : Prop :=
  (if x5 = 0 then vp_in x1 16 ∧ vp_in ((x2 * 4) + x3) 56 ∧ ∀ I119 : MI, I119 = sI I (1 + 64 + 7 * x1.toNatClampNeg + 1 + 2) (upd (I (1 + 64 + 7 * x1.toNatClampNeg + 1 + 2)) ((x2 * 4) + x3).toNatClampNeg x4) → f_School_done (0 : Int32) I119 J (fun r122 I122 J122 => Q r122 I122 J122) else f_School_refuse x5 I J (fun r96 I96 J96 => Q r96 I96 J96))
def f_School_take_b59 (x1 : Int32) (x2 : Int32) (x3 : Int32) (x4 : Int32) (x5 : Int32) (Q : Int32 → MI → MJ → Prop) (I : MI) (J : MJ) : Prop :=
  (if x5 = 0 then (if x4 = (-1) then vp_in x1 16 ∧ f_Machine_isFirm (1 + 64 + 7 * x1.toNatClampNeg + 1) I J (fun r79 I79 J79 => (if r79 = 0 then f_School_take_b88 x1 x2 x3 x4 x5 Q I79 J79 else f_School_take_b88 x1 x2 x3 x4 4 Q I79 J79)) else f_School_take_b88 x1 x2 x3 x4 x5 Q I J) else f_School_take_b88 x1 x2 x3 x4 x5 Q I J)
def f_School_take_b56 (x1 : Int32) (x2 : Int32) (x3 : Int32) (x4 : Int32) (Q : Int32 → MI → MJ → Prop) (I : MI) (J : MJ) : Prop :=
  f_School_take_b59 x1 x2 x3 x4 2 Q I J
def f_School_take_b28 (x1 : Int32) (x2 : Int32) (x3 : Int32) (x4 : Int32) (x5 : Int32) (Q : Int32 → MI → MJ → Prop) (I : MI) (J : MJ) : Prop :=
  (if x5 = 0 then (if x4 < (-1) then f_School_take_b56 x1 x2 x3 x4 Q I J else vp_in x1 16 ∧ (if x4 < (I (1 + 64 + 7 * x1.toNatClampNeg + 1) 1) then f_School_take_b59 x1 x2 x3 x4 x5 Q I J else f_School_take_b56 x1 x2 x3 x4 Q I J)) else f_School_take_b59 x1 x2 x3 x4 x5 Q I J)
def f_School_take (x1 : Int32) (x2 : Int32) (x3 : Int32) (x4 : Int32) (I : MI) (J : MJ) (Q : Int32 → MI → MJ → Prop) : Prop :=
  f_School_machineFault x1 I J (fun r2 I2 J2 => (if r2 = 0 then vp_in x1 16 ∧ f_School_takeFault (1 + 64 + 7 * x1.toNatClampNeg + 1) x2 x3 I2 J2 (fun r23 I23 J23 => f_School_take_b28 x1 x2 x3 x4 r23 Q I23 J23) else f_School_take_b28 x1 x2 x3 x4 r2 Q I2 J2))
set_option maxRecDepth 100000 in
set_option maxHeartbeats 4000000 in
theorem w_School_take_b88 {Γ : Ctx} {Q : Int32 → MI → MJ → Prop} {x1 : Int32} {x2 : Int32} {x3 : Int32} {x4 : Int32} {x5 : Int32}  (X : Cx Γ cX10_take 6 RX10 3) (Y : Rt Γ (Pi Q) (Option.some Jvm.ClassFile.FieldType.int))   {I : MI} {J : MJ} (h : f_School_take_b88 x1 x2 x3 x4 x5 Q I J) : Wp Γ 6 88 [(0, .ref (ad Γ 0)), (1, .int x1), (2, .int x2), (3, .int x3), (4, .int x4), (5, .int x5)] [] I J := by
  unfold f_School_take_b88 at h
  refine wp_iload X dX10_take_88 5 rfl ?_
  refine wp_if_eq (tgt := 100) X dX10_take_90 (by decide) (fun hc => ?_) (fun hc => ?_)
  · have h := ite_t h hc
    refine wp_aload_n X dX10_take_100 0 rfl ?_
    refine gf_X10_11 (o' := 1) X sh_0 rfl dX10_take_101 ?_
    refine wp_iload_n X dX10_take_104 1 rfl ?_
    obtain ⟨hb105, h⟩ := h
    refine wp_aald X sh_1 hb105 dX10_take_105 ?_
    refine gf_X10_76 (o' := 1 + 64 + 7 * x1.toNatClampNeg + 1) X ((okP_at hb105).1) rfl dX10_take_106 ?_
    refine gf_X10_114 (o' := 1 + 64 + 7 * x1.toNatClampNeg + 1 + 2) X ((okP_at hb105).2.1.1) rfl dX10_take_109 ?_
    refine wp_iload_n X dX10_take_112 2 rfl ?_
    refine wp_iconst X dX10_take_113 ic_4 ?_
    refine wp_imul X dX10_take_114 ?_
    refine wp_iload_n X dX10_take_115 3 rfl ?_
    refine wp_iadd X dX10_take_116 ?_
    refine wp_iload X dX10_take_117 4 rfl ?_
    obtain ⟨hb119, h⟩ := h
    refine wp_iast X (((okP_at hb105).2.1).2.2.1) hb119 dX10_take_119 ?_
    refine wp_memI (fun I119 eI119 => ?_)
    have h := h I119 eI119
    refine wp_aload_n X dX10_take_120 0 rfl ?_
    refine wp_iconst X dX10_take_121 ic_0 ?_
    refine cv_School_done X dX10_take_122 ml_X10_86  h (Nat.le_of_ble_eq_true rfl) (by decide) (fun r122 I122 J122 h => ?_)
    exact wp_iret X Y dX10_take_125 ⟨_, rfl, h⟩
  · have h := ite_f h hc
    refine wp_aload_n X dX10_take_93 0 rfl ?_
    refine wp_iload X dX10_take_94 5 rfl ?_
    refine cv_School_refuse X dX10_take_96 ml_X10_73  h (Nat.le_of_ble_eq_true rfl) (by decide) (fun r96 I96 J96 h => ?_)
    exact wp_iret X Y dX10_take_99 ⟨_, rfl, h⟩

set_option maxRecDepth 100000 in
set_option maxHeartbeats 4000000 in
theorem w_School_take_b59 {Γ : Ctx} {Q : Int32 → MI → MJ → Prop} {x1 : Int32} {x2 : Int32} {x3 : Int32} {x4 : Int32} {x5 : Int32}  (X : Cx Γ cX10_take 6 RX10 3) (Y : Rt Γ (Pi Q) (Option.some Jvm.ClassFile.FieldType.int))   {I : MI} {J : MJ} (h : f_School_take_b59 x1 x2 x3 x4 x5 Q I J) : Wp Γ 6 59 [(0, .ref (ad Γ 0)), (1, .int x1), (2, .int x2), (3, .int x3), (4, .int x4), (5, .int x5)] [] I J := by
  unfold f_School_take_b59 at h
  refine wp_iload X dX10_take_59 5 rfl ?_
  refine wp_if_ne (tgt := 88) X dX10_take_61 (by decide) (fun hc => ?_) (fun hc => ?_)
  · have h := ite_f h hc
    exact w_School_take_b88 X Y  h
  · have h := ite_t h hc
    refine wp_iload X dX10_take_64 4 rfl ?_
    refine wp_iconst X dX10_take_66 ic_m1 ?_
    refine wp_icmp_ne (tgt := 88) X dX10_take_67 (by decide) (fun hc => ?_) (fun hc => ?_)
    · have h := ite_f h hc
      exact w_School_take_b88 X Y  h
    · have h := ite_t h hc
      refine wp_aload_n X dX10_take_70 0 rfl ?_
      refine gf_X10_11 (o' := 1) X sh_0 rfl dX10_take_71 ?_
      refine wp_iload_n X dX10_take_74 1 rfl ?_
      obtain ⟨hb75, h⟩ := h
      refine wp_aald X sh_1 hb75 dX10_take_75 ?_
      refine gf_X10_76 (o' := 1 + 64 + 7 * x1.toNatClampNeg + 1) X ((okP_at hb75).1) rfl dX10_take_76 ?_
      refine cv_Machine_isFirm X dX10_take_79 ml_X10_110 ((okP_at hb75).2.1) h (Nat.le_of_ble_eq_true rfl) (by decide) (fun r79 I79 J79 h => ?_)
      refine wp_if_eq (tgt := 88) X dX10_take_82 (by decide) (fun hc => ?_) (fun hc => ?_)
      · have h := ite_t h hc
        exact w_School_take_b88 X Y  h
      · have h := ite_f h hc
        refine wp_iconst X dX10_take_85 ic_4 ?_
        refine wp_istore (L' := [(5, .int 4), (0, .ref (ad Γ 0)), (1, .int x1), (2, .int x2), (3, .int x3), (4, .int x4)]) X dX10_take_86 (by decide) rfl ?_
        refine wp_sub X [1, 2, 3, 4, 5, 0] rfl ?_
        exact w_School_take_b88 X Y  h

set_option maxRecDepth 100000 in
set_option maxHeartbeats 4000000 in
theorem w_School_take_b56 {Γ : Ctx} {Q : Int32 → MI → MJ → Prop} {x1 : Int32} {x2 : Int32} {x3 : Int32} {x4 : Int32}  (X : Cx Γ cX10_take 6 RX10 3) (Y : Rt Γ (Pi Q) (Option.some Jvm.ClassFile.FieldType.int))   {I : MI} {J : MJ} (h : f_School_take_b56 x1 x2 x3 x4 Q I J) : Wp Γ 6 56 [(0, .ref (ad Γ 0)), (1, .int x1), (2, .int x2), (3, .int x3), (4, .int x4)] [] I J := by
  unfold f_School_take_b56 at h
  refine wp_iconst X dX10_take_56 ic_2 ?_
  refine wp_istore (L' := [(5, .int 2), (0, .ref (ad Γ 0)), (1, .int x1), (2, .int x2), (3, .int x3), (4, .int x4)]) X dX10_take_57 (by decide) rfl ?_
  refine wp_sub X [1, 2, 3, 4, 5, 0] rfl ?_
  exact w_School_take_b59 X Y  h

set_option maxRecDepth 100000 in
set_option maxHeartbeats 4000000 in
theorem w_School_take_b28 {Γ : Ctx} {Q : Int32 → MI → MJ → Prop} {x1 : Int32} {x2 : Int32} {x3 : Int32} {x4 : Int32} {x5 : Int32}  (X : Cx Γ cX10_take 6 RX10 3) (Y : Rt Γ (Pi Q) (Option.some Jvm.ClassFile.FieldType.int))   {I : MI} {J : MJ} (h : f_School_take_b28 x1 x2 x3 x4 x5 Q I J) : Wp Γ 6 28 [(0, .ref (ad Γ 0)), (1, .int x1), (2, .int x2), (3, .int x3), (4, .int x4), (5, .int x5)] [] I J := by
  unfold f_School_take_b28 at h
  refine wp_iload X dX10_take_28 5 rfl ?_
  refine wp_if_ne (tgt := 59) X dX10_take_30 (by decide) (fun hc => ?_) (fun hc => ?_)
  · have h := ite_f h hc
    exact w_School_take_b59 X Y  h
  · have h := ite_t h hc
    refine wp_iload X dX10_take_33 4 rfl ?_
    refine wp_iconst X dX10_take_35 ic_m1 ?_
    refine wp_icmp_lt (tgt := 56) X dX10_take_36 (by decide) (fun hc => ?_) (fun hc => ?_)
    · have h := ite_t h hc
      refine wp_sub X [0, 1, 2, 3, 4] rfl ?_
      exact w_School_take_b56 X Y  h
    · have h := ite_f h hc
      refine wp_iload X dX10_take_39 4 rfl ?_
      refine wp_aload_n X dX10_take_41 0 rfl ?_
      refine gf_X10_11 (o' := 1) X sh_0 rfl dX10_take_42 ?_
      refine wp_iload_n X dX10_take_45 1 rfl ?_
      obtain ⟨hb46, h⟩ := h
      refine wp_aald X sh_1 hb46 dX10_take_46 ?_
      refine gf_X10_76 (o' := 1 + 64 + 7 * x1.toNatClampNeg + 1) X ((okP_at hb46).1) rfl dX10_take_47 ?_
      refine gf_X10_107 X ((okP_at hb46).2.1.1) dX10_take_50 ?_
      refine wp_icmp_lt (tgt := 59) X dX10_take_53 (by decide) (fun hc => ?_) (fun hc => ?_)
      · have h := ite_t h hc
        exact w_School_take_b59 X Y  h
      · have h := ite_f h hc
        refine wp_sub X [0, 1, 2, 3, 4] rfl ?_
        exact w_School_take_b56 X Y  h

set_option maxRecDepth 100000 in
set_option maxHeartbeats 4000000 in
theorem w_School_take_b0 {Γ : Ctx} {Q : Int32 → MI → MJ → Prop} {x1 : Int32} {x2 : Int32} {x3 : Int32} {x4 : Int32}  (X : Cx Γ cX10_take 6 RX10 3) (Y : Rt Γ (Pi Q) (Option.some Jvm.ClassFile.FieldType.int))   {I : MI} {J : MJ} (h : f_School_take x1 x2 x3 x4 I J Q) : Wp Γ 6 0 [(0, .ref (ad Γ 0)), (1, .int x1), (2, .int x2), (3, .int x3), (4, .int x4)] [] I J := by
  unfold f_School_take at h
  refine wp_aload_n X dX10_take_0 0 rfl ?_
  refine wp_iload_n X dX10_take_1 1 rfl ?_
  refine cv_School_machineFault X dX10_take_2 ml_X10_100  h (Nat.le_of_ble_eq_true rfl) (by decide) (fun r2 I2 J2 h => ?_)
  refine wp_istore (L' := [(5, .int r2), (0, .ref (ad Γ 0)), (1, .int x1), (2, .int x2), (3, .int x3), (4, .int x4)]) X dX10_take_5 (by decide) rfl ?_
  refine wp_iload X dX10_take_7 0 rfl ?_
  refine wp_if_ne (tgt := 28) X dX10_take_9 (by decide) (fun hc => ?_) (fun hc => ?_)
  · have h := ite_f h hc
    refine wp_sub X [1, 2, 3, 4, 5, 0] rfl ?_
    exact w_School_take_b28 X Y  h
  · have h := ite_t h hc
    refine wp_aload_n X dX10_take_12 1 rfl ?_
    refine gf_X10_11 (o' := 1) X sh_0 rfl dX10_take_13 ?_
    refine wp_iload_n X dX10_take_16 2 rfl ?_
    obtain ⟨hb17, h⟩ := h
    refine wp_aald X sh_1 hb17 dX10_take_17 ?_
    refine gf_X10_76 (o' := 1 + 64 + 7 * x1.toNatClampNeg + 1) X ((okP_at hb17).1) rfl dX10_take_18 ?_
    refine wp_iload_n X dX10_take_21 3 rfl ?_
    refine wp_iload_n X dX10_take_22 4 rfl ?_
    refine cs_School_takeFault X dX10_take_23 ml_X10_103 ((okP_at hb17).2.1) h (Nat.le_of_ble_eq_true rfl) (by decide) (fun r23 I23 J23 h => ?_)
    refine wp_istore (L' := [(5, .int r23), (0, .ref (ad Γ 0)), (1, .int x1), (2, .int x2), (3, .int x3), (4, .int x4)]) X dX10_take_26 (by decide) rfl ?_
    refine wp_sub X [1, 2, 3, 4, 5, 0] rfl ?_
    exact w_School_take_b28 X Y  h

theorem c_School_take {l : Launch} {g : GE} (hg : Inj g) {I : MI} {J : MJ} {Q : Int32 → MI → MJ → Prop} {x1 : Int32} {x2 : Int32} {x3 : Int32} {x4 : Int32}  (h : f_School_take x1 x2 x3 x4 I J Q) : Cm l g yX10_take cX10_take 6 (Option.some Jvm.ClassFile.FieldType.int) 3 [.ref (g.1 0), .int x1, .int x2, .int x3, .int x4] I J (Pi Q) := by
  refine Cm.of (As := fun ad => [.ref (ad 0), .int x1, .int x2, .int x3, .int x4]) hg pn_X10 (Nat.le_of_ble_eq_true rfl) ?_
  exact (fun Γ _ _ X Y => w_School_take_b0 X Y  h)
theorem cv_School_take {Γ : Ctx} {cc : ByteArray} {nL d pc index : Nat} {own : String} {L : List (Nat × Value)} {rest : List Value} {I : MI} {J : MJ} {Q : Int32 → MI → MJ → Prop} {x1 : Int32} {x2 : Int32} {x3 : Int32} {x4 : Int32} (X : Cx Γ cc nL own d) (hd : decode cc pc = .ok (.invokevirtual index, 3)) (hlink : Cond.methodLink own index yX10_take ∈ TT)  (h : f_School_take x1 x2 x3 x4 I J Q) (hrest : (rest.map fun v => v.category).sum ≤ 8) (hdd : 3 + 1 ≤ d) (kk : ∀ (r : Int32) (I' : MI) (J' : MJ), Q r I' J' → Wp Γ nL (pc + 3) L (.int r :: rest) I' J') : Wp Γ nL pc L (.int x4 :: .int x3 :: .int x2 :: .int x1 :: .ref (ad Γ 0) :: rest) I J :=
  wp_callV (As := [.int x1, .int x2, .int x3, .int x4]) (rest := rest) (T := TX10) (N := 9) X hd hlink mv_X10_take sh_0 (by decide) rfl (c_School_take X.inj  h) rfl rfl hrest hdd (fun v I' J' hv => by obtain ⟨r, rfl, hq⟩ := hv; exact kk r I' J' hq)
theorem dX3_answersOfKind_0 : decode cX3_answersOfKind 0 = .ok (.aload_n 0, 1) := by decide +kernel
theorem dX3_answersOfKind_1 : decode cX3_answersOfKind 1 = .ok (.getfield 24, 3) := by decide +kernel
theorem dX3_answersOfKind_4 : decode cX3_answersOfKind 4 = .ok (.ifCond .ne 7, 3) := by decide +kernel
theorem dX3_answersOfKind_7 : decode cX3_answersOfKind 7 = .ok (.iconst 2, 1) := by decide +kernel
theorem dX3_answersOfKind_8 : decode cX3_answersOfKind 8 = .ok (.goto 5, 3) := by decide +kernel
theorem dX3_answersOfKind_11 : decode cX3_answersOfKind 11 = .ok (.bipush 8, 2) := by decide +kernel
theorem dX3_answersOfKind_13 : decode cX3_answersOfKind 13 = .ok (.ireturn, 1) := by decide +kernel
def f_Machine_answersOfKind (o : Nat) (I : MI) (J : MJ) (Q : Int32 → MI → MJ → Prop) : Prop :=
  (if (I o 0) = 0 then Q 2 I J else Q 8 I J)
set_option maxRecDepth 100000 in
set_option maxHeartbeats 4000000 in
theorem w_Machine_answersOfKind_b0 {Γ : Ctx} {Q : Int32 → MI → MJ → Prop} {o : Nat}  (X : Cx Γ cX3_answersOfKind 1 RX3 0) (Y : Rt Γ (Pi Q) (Option.some Jvm.ClassFile.FieldType.int)) (ho : okM o)  {I : MI} {J : MJ} (h : f_Machine_answersOfKind o I J Q) : Wp Γ 1 0 [(0, .ref (ad Γ o))] [] I J := by
  unfold f_Machine_answersOfKind at h
  refine wp_aload_n X dX3_answersOfKind_0 0 rfl ?_
  refine gf_X3_24 X ho.1 dX3_answersOfKind_1 ?_
  refine wp_if_ne (tgt := 11) X dX3_answersOfKind_4 (by decide) (fun hc => ?_) (fun hc => ?_)
  · have h := ite_f h hc
    refine wp_bipush X dX3_answersOfKind_11 bi_8 ?_
    exact wp_iret X Y dX3_answersOfKind_13 ⟨_, rfl, h⟩
  · have h := ite_t h hc
    refine wp_iconst X dX3_answersOfKind_7 ic_2 ?_
    refine wp_goto (tgt := 13) X dX3_answersOfKind_8 (by decide) ?_
    exact wp_iret X Y dX3_answersOfKind_13 ⟨_, rfl, h⟩

theorem c_Machine_answersOfKind {l : Launch} {g : GE} (hg : Inj g) {I : MI} {J : MJ} {Q : Int32 → MI → MJ → Prop} {o : Nat} (ho : okM o) (h : f_Machine_answersOfKind o I J Q) : Cm l g yX3_answersOfKind cX3_answersOfKind 1 (Option.some Jvm.ClassFile.FieldType.int) 0 [.ref (g.1 o)] I J (Pi Q) := by
  refine Cm.of (As := fun ad => [.ref (ad o)]) hg pn_X3 (Nat.le_of_ble_eq_true rfl) ?_
  exact (fun Γ _ _ X Y => w_Machine_answersOfKind_b0 X Y ho h)
theorem cv_Machine_answersOfKind {Γ : Ctx} {cc : ByteArray} {nL d pc index : Nat} {own : String} {L : List (Nat × Value)} {rest : List Value} {I : MI} {J : MJ} {Q : Int32 → MI → MJ → Prop} {o : Nat} (X : Cx Γ cc nL own d) (hd : decode cc pc = .ok (.invokevirtual index, 3)) (hlink : Cond.methodLink own index yX3_answersOfKind ∈ TT) (ho : okM o) (h : f_Machine_answersOfKind o I J Q) (hrest : (rest.map fun v => v.category).sum ≤ 8) (hdd : 0 + 1 ≤ d) (kk : ∀ (r : Int32) (I' : MI) (J' : MJ), Q r I' J' → Wp Γ nL (pc + 3) L (.int r :: rest) I' J') : Wp Γ nL pc L (.ref (ad Γ o) :: rest) I J :=
  wp_callV (As := []) (rest := rest) (T := TX3) (N := 7) X hd hlink mv_X3_answersOfKind ho.1 (by decide) rfl (c_Machine_answersOfKind X.inj ho h) rfl rfl hrest hdd (fun v I' J' hv => by obtain ⟨r, rfl, hq⟩ := hv; exact kk r I' J' hq)
theorem dX10_say_0 : decode cX10_say 0 = .ok (.aload_n 0, 1) := by decide +kernel
theorem dX10_say_1 : decode cX10_say 1 = .ok (.iload_n 1, 1) := by decide +kernel
theorem dX10_say_2 : decode cX10_say 2 = .ok (.invokevirtual 100, 3) := by decide +kernel
theorem dX10_say_5 : decode cX10_say 5 = .ok (.istore 4, 2) := by decide +kernel
theorem dX10_say_7 : decode cX10_say 7 = .ok (.iload 4, 2) := by decide +kernel
theorem dX10_say_9 : decode cX10_say 9 = .ok (.ifCond .ne 22, 3) := by decide +kernel
theorem dX10_say_12 : decode cX10_say 12 = .ok (.aload_n 0, 1) := by decide +kernel
theorem dX10_say_13 : decode cX10_say 13 = .ok (.getfield 11, 3) := by decide +kernel
theorem dX10_say_16 : decode cX10_say 16 = .ok (.iload_n 1, 1) := by decide +kernel
theorem dX10_say_17 : decode cX10_say 17 = .ok (.aaload, 1) := by decide +kernel
theorem dX10_say_18 : decode cX10_say 18 = .ok (.getfield 76, 3) := by decide +kernel
theorem dX10_say_21 : decode cX10_say 21 = .ok (.iload_n 2, 1) := by decide +kernel
theorem dX10_say_22 : decode cX10_say 22 = .ok (.invokevirtual 118, 3) := by decide +kernel
theorem dX10_say_25 : decode cX10_say 25 = .ok (.ifCond .ne 6, 3) := by decide +kernel
theorem dX10_say_28 : decode cX10_say 28 = .ok (.iconst 2, 1) := by decide +kernel
theorem dX10_say_29 : decode cX10_say 29 = .ok (.istore 4, 2) := by decide +kernel
theorem dX10_say_31 : decode cX10_say 31 = .ok (.iload 4, 2) := by decide +kernel
theorem dX10_say_33 : decode cX10_say 33 = .ok (.ifCond .ne 26, 3) := by decide +kernel
theorem dX10_say_36 : decode cX10_say 36 = .ok (.iload_n 3, 1) := by decide +kernel
theorem dX10_say_37 : decode cX10_say 37 = .ok (.ifCond .lt 19, 3) := by decide +kernel
theorem dX10_say_40 : decode cX10_say 40 = .ok (.iload_n 3, 1) := by decide +kernel
theorem dX10_say_41 : decode cX10_say 41 = .ok (.aload_n 0, 1) := by decide +kernel
theorem dX10_say_42 : decode cX10_say 42 = .ok (.getfield 11, 3) := by decide +kernel
theorem dX10_say_45 : decode cX10_say 45 = .ok (.iload_n 1, 1) := by decide +kernel
theorem dX10_say_46 : decode cX10_say 46 = .ok (.aaload, 1) := by decide +kernel
theorem dX10_say_47 : decode cX10_say 47 = .ok (.getfield 76, 3) := by decide +kernel
theorem dX10_say_50 : decode cX10_say 50 = .ok (.invokevirtual 122, 3) := by decide +kernel
theorem dX10_say_53 : decode cX10_say 53 = .ok (.if_icmp .lt 6, 3) := by decide +kernel
theorem dX10_say_56 : decode cX10_say 56 = .ok (.iconst 2, 1) := by decide +kernel
theorem dX10_say_57 : decode cX10_say 57 = .ok (.istore 4, 2) := by decide +kernel
theorem dX10_say_59 : decode cX10_say 59 = .ok (.iload 4, 2) := by decide +kernel
theorem dX10_say_61 : decode cX10_say 61 = .ok (.ifCond .eq 10, 3) := by decide +kernel
theorem dX10_say_64 : decode cX10_say 64 = .ok (.aload_n 0, 1) := by decide +kernel
theorem dX10_say_65 : decode cX10_say 65 = .ok (.iload 4, 2) := by decide +kernel
theorem dX10_say_67 : decode cX10_say 67 = .ok (.invokevirtual 73, 3) := by decide +kernel
theorem dX10_say_70 : decode cX10_say 70 = .ok (.ireturn, 1) := by decide +kernel
theorem dX10_say_71 : decode cX10_say 71 = .ok (.aload_n 0, 1) := by decide +kernel
theorem dX10_say_72 : decode cX10_say 72 = .ok (.getfield 11, 3) := by decide +kernel
theorem dX10_say_75 : decode cX10_say 75 = .ok (.iload_n 1, 1) := by decide +kernel
theorem dX10_say_76 : decode cX10_say 76 = .ok (.aaload, 1) := by decide +kernel
theorem dX10_say_77 : decode cX10_say 77 = .ok (.getfield 76, 3) := by decide +kernel
theorem dX10_say_80 : decode cX10_say 80 = .ok (.getfield 126, 3) := by decide +kernel
theorem dX10_say_83 : decode cX10_say 83 = .ok (.iload_n 2, 1) := by decide +kernel
theorem dX10_say_84 : decode cX10_say 84 = .ok (.iload_n 3, 1) := by decide +kernel
theorem dX10_say_85 : decode cX10_say 85 = .ok (.iastore, 1) := by decide +kernel
theorem dX10_say_86 : decode cX10_say 86 = .ok (.aload_n 0, 1) := by decide +kernel
theorem dX10_say_87 : decode cX10_say 87 = .ok (.iconst 0, 1) := by decide +kernel
theorem dX10_say_88 : decode cX10_say 88 = .ok (.invokevirtual 86, 3) := by decide +kernel
theorem dX10_say_91 : decode cX10_say 91 = .ok (.ireturn, 1) := by decide +kernel
def f_School_say_b59 (x1 : Int32) (x2 : Int32) (x3 : Int32) (x4 : Int32) (Q : Int32 → MI → MJ → Prop) (I : MI) (J : MJ) : Prop :=
  (if x4 = 0 then vp_in x1 16 ∧ vp_in x2 14 ∧ ∀ I85 : MI, I85 = sI I (1 + 64 + 7 * x1.toNatClampNeg + 1 + 4) (upd (I (1 + 64 + 7 * x1.toNatClampNeg + 1 + 4)) x2.toNatClampNeg x3) → f_School_done (0 : Int32) I85 J (fun r88 I88 J88 => Q r88 I88 J88) else f_School_refuse x4 I J (fun r67 I67 J67 => Q r67 I67 J67))
def f_School_say_b56 (x1 : Int32) (x2 : Int32) (x3 : Int32) (Q : Int32 → MI → MJ → Prop) (I : MI) (J : MJ) : Prop :=
  f_School_say_b59 x1 x2 x3 2 Q I J
def f_School_say_b31 (x1 : Int32) (x2 : Int32) (x3 : Int32) (x4 : Int32) (Q : Int32 → MI → MJ → Prop) (I : MI) (J : MJ) : Prop :=
  (if x4 = 0 then (if x3 < 0 then f_School_say_b56 x1 x2 x3 Q I J else vp_in x1 16 ∧ f_Machine_answersOfKind (1 + 64 + 7 * x1.toNatClampNeg + 1) I J (fun r50 I50 J50 => (if x3 < r50 then f_School_say_b59 x1 x2 x3 x4 Q I50 J50 else f_School_say_b56 x1 x2 x3 Q I50 J50))) else f_School_say_b59 x1 x2 x3 x4 Q I J)
def f_School_say (x1 : Int32) (x2 : Int32) (x3 : Int32) (I : MI) (J : MJ) (Q : Int32 → MI → MJ → Prop) : Prop :=
  f_School_machineFault x1 I J (fun r2 I2 J2 => (if r2 = 0 then vp_in x1 16 ∧ f_Machine_hasState (1 + 64 + 7 * x1.toNatClampNeg + 1) x2 I2 J2 (fun r22 I22 J22 => (if r22 = 0 then f_School_say_b31 x1 x2 x3 2 Q I22 J22 else f_School_say_b31 x1 x2 x3 r2 Q I22 J22)) else f_School_say_b31 x1 x2 x3 r2 Q I2 J2))
set_option maxRecDepth 100000 in
set_option maxHeartbeats 4000000 in
theorem w_School_say_b59 {Γ : Ctx} {Q : Int32 → MI → MJ → Prop} {x1 : Int32} {x2 : Int32} {x3 : Int32} {x4 : Int32}  (X : Cx Γ cX10_say 5 RX10 3) (Y : Rt Γ (Pi Q) (Option.some Jvm.ClassFile.FieldType.int))   {I : MI} {J : MJ} (h : f_School_say_b59 x1 x2 x3 x4 Q I J) : Wp Γ 5 59 [(0, .ref (ad Γ 0)), (1, .int x1), (2, .int x2), (3, .int x3), (4, .int x4)] [] I J := by
  unfold f_School_say_b59 at h
  refine wp_iload X dX10_say_59 4 rfl ?_
  refine wp_if_eq (tgt := 71) X dX10_say_61 (by decide) (fun hc => ?_) (fun hc => ?_)
  · have h := ite_t h hc
    refine wp_aload_n X dX10_say_71 0 rfl ?_
    refine gf_X10_11 (o' := 1) X sh_0 rfl dX10_say_72 ?_
    refine wp_iload_n X dX10_say_75 1 rfl ?_
    obtain ⟨hb76, h⟩ := h
    refine wp_aald X sh_1 hb76 dX10_say_76 ?_
    refine gf_X10_76 (o' := 1 + 64 + 7 * x1.toNatClampNeg + 1) X ((okP_at hb76).1) rfl dX10_say_77 ?_
    refine gf_X10_126 (o' := 1 + 64 + 7 * x1.toNatClampNeg + 1 + 4) X ((okP_at hb76).2.1.1) rfl dX10_say_80 ?_
    refine wp_iload_n X dX10_say_83 2 rfl ?_
    refine wp_iload_n X dX10_say_84 3 rfl ?_
    obtain ⟨hb85, h⟩ := h
    refine wp_iast X (((okP_at hb76).2.1).2.2.2.2) hb85 dX10_say_85 ?_
    refine wp_memI (fun I85 eI85 => ?_)
    have h := h I85 eI85
    refine wp_aload_n X dX10_say_86 0 rfl ?_
    refine wp_iconst X dX10_say_87 ic_0 ?_
    refine cv_School_done X dX10_say_88 ml_X10_86  h (Nat.le_of_ble_eq_true rfl) (by decide) (fun r88 I88 J88 h => ?_)
    exact wp_iret X Y dX10_say_91 ⟨_, rfl, h⟩
  · have h := ite_f h hc
    refine wp_aload_n X dX10_say_64 0 rfl ?_
    refine wp_iload X dX10_say_65 4 rfl ?_
    refine cv_School_refuse X dX10_say_67 ml_X10_73  h (Nat.le_of_ble_eq_true rfl) (by decide) (fun r67 I67 J67 h => ?_)
    exact wp_iret X Y dX10_say_70 ⟨_, rfl, h⟩

set_option maxRecDepth 100000 in
set_option maxHeartbeats 4000000 in
theorem w_School_say_b56 {Γ : Ctx} {Q : Int32 → MI → MJ → Prop} {x1 : Int32} {x2 : Int32} {x3 : Int32}  (X : Cx Γ cX10_say 5 RX10 3) (Y : Rt Γ (Pi Q) (Option.some Jvm.ClassFile.FieldType.int))   {I : MI} {J : MJ} (h : f_School_say_b56 x1 x2 x3 Q I J) : Wp Γ 5 56 [(0, .ref (ad Γ 0)), (1, .int x1), (2, .int x2), (3, .int x3)] [] I J := by
  unfold f_School_say_b56 at h
  refine wp_iconst X dX10_say_56 ic_2 ?_
  refine wp_istore (L' := [(4, .int 2), (0, .ref (ad Γ 0)), (1, .int x1), (2, .int x2), (3, .int x3)]) X dX10_say_57 (by decide) rfl ?_
  refine wp_sub X [1, 2, 3, 4, 0] rfl ?_
  exact w_School_say_b59 X Y  h

set_option maxRecDepth 100000 in
set_option maxHeartbeats 4000000 in
theorem w_School_say_b31 {Γ : Ctx} {Q : Int32 → MI → MJ → Prop} {x1 : Int32} {x2 : Int32} {x3 : Int32} {x4 : Int32}  (X : Cx Γ cX10_say 5 RX10 3) (Y : Rt Γ (Pi Q) (Option.some Jvm.ClassFile.FieldType.int))   {I : MI} {J : MJ} (h : f_School_say_b31 x1 x2 x3 x4 Q I J) : Wp Γ 5 31 [(0, .ref (ad Γ 0)), (1, .int x1), (2, .int x2), (3, .int x3), (4, .int x4)] [] I J := by
  unfold f_School_say_b31 at h
  refine wp_iload X dX10_say_31 4 rfl ?_
  refine wp_if_ne (tgt := 59) X dX10_say_33 (by decide) (fun hc => ?_) (fun hc => ?_)
  · have h := ite_f h hc
    exact w_School_say_b59 X Y  h
  · have h := ite_t h hc
    refine wp_iload_n X dX10_say_36 3 rfl ?_
    refine wp_if_lt (tgt := 56) X dX10_say_37 (by decide) (fun hc => ?_) (fun hc => ?_)
    · have h := ite_t h hc
      refine wp_sub X [0, 1, 2, 3] rfl ?_
      exact w_School_say_b56 X Y  h
    · have h := ite_f h hc
      refine wp_iload_n X dX10_say_40 3 rfl ?_
      refine wp_aload_n X dX10_say_41 0 rfl ?_
      refine gf_X10_11 (o' := 1) X sh_0 rfl dX10_say_42 ?_
      refine wp_iload_n X dX10_say_45 1 rfl ?_
      obtain ⟨hb46, h⟩ := h
      refine wp_aald X sh_1 hb46 dX10_say_46 ?_
      refine gf_X10_76 (o' := 1 + 64 + 7 * x1.toNatClampNeg + 1) X ((okP_at hb46).1) rfl dX10_say_47 ?_
      refine cv_Machine_answersOfKind X dX10_say_50 ml_X10_122 ((okP_at hb46).2.1) h (Nat.le_of_ble_eq_true rfl) (by decide) (fun r50 I50 J50 h => ?_)
      refine wp_icmp_lt (tgt := 59) X dX10_say_53 (by decide) (fun hc => ?_) (fun hc => ?_)
      · have h := ite_t h hc
        exact w_School_say_b59 X Y  h
      · have h := ite_f h hc
        refine wp_sub X [0, 1, 2, 3] rfl ?_
        exact w_School_say_b56 X Y  h

set_option maxRecDepth 100000 in
set_option maxHeartbeats 4000000 in
theorem w_School_say_b0 {Γ : Ctx} {Q : Int32 → MI → MJ → Prop} {x1 : Int32} {x2 : Int32} {x3 : Int32}  (X : Cx Γ cX10_say 5 RX10 3) (Y : Rt Γ (Pi Q) (Option.some Jvm.ClassFile.FieldType.int))   {I : MI} {J : MJ} (h : f_School_say x1 x2 x3 I J Q) : Wp Γ 5 0 [(0, .ref (ad Γ 0)), (1, .int x1), (2, .int x2), (3, .int x3)] [] I J := by
  unfold f_School_say at h
  refine wp_aload_n X dX10_say_0 0 rfl ?_
  refine wp_iload_n X dX10_say_1 1 rfl ?_
  refine cv_School_machineFault X dX10_say_2 ml_X10_100  h (Nat.le_of_ble_eq_true rfl) (by decide) (fun r2 I2 J2 h => ?_)
  refine wp_istore (L' := [(4, .int r2), (0, .ref (ad Γ 0)), (1, .int x1), (2, .int x2), (3, .int x3)]) X dX10_say_5 (by decide) rfl ?_
  refine wp_iload X dX10_say_7 0 rfl ?_
  refine wp_if_ne (tgt := 31) X dX10_say_9 (by decide) (fun hc => ?_) (fun hc => ?_)
  · have h := ite_f h hc
    refine wp_sub X [1, 2, 3, 4, 0] rfl ?_
    exact w_School_say_b31 X Y  h
  · have h := ite_t h hc
    refine wp_aload_n X dX10_say_12 1 rfl ?_
    refine gf_X10_11 (o' := 1) X sh_0 rfl dX10_say_13 ?_
    refine wp_iload_n X dX10_say_16 2 rfl ?_
    obtain ⟨hb17, h⟩ := h
    refine wp_aald X sh_1 hb17 dX10_say_17 ?_
    refine gf_X10_76 (o' := 1 + 64 + 7 * x1.toNatClampNeg + 1) X ((okP_at hb17).1) rfl dX10_say_18 ?_
    refine wp_iload_n X dX10_say_21 3 rfl ?_
    refine cv_Machine_hasState X dX10_say_22 ml_X10_118 ((okP_at hb17).2.1) h (Nat.le_of_ble_eq_true rfl) (by decide) (fun r22 I22 J22 h => ?_)
    refine wp_if_ne (tgt := 31) X dX10_say_25 (by decide) (fun hc => ?_) (fun hc => ?_)
    · have h := ite_f h hc
      refine wp_sub X [1, 2, 3, 4, 0] rfl ?_
      exact w_School_say_b31 X Y  h
    · have h := ite_t h hc
      refine wp_iconst X dX10_say_28 ic_2 ?_
      refine wp_istore (L' := [(4, .int 2), (0, .ref (ad Γ 0)), (1, .int x1), (2, .int x2), (3, .int x3)]) X dX10_say_29 (by decide) rfl ?_
      refine wp_sub X [1, 2, 3, 4, 0] rfl ?_
      exact w_School_say_b31 X Y  h

theorem c_School_say {l : Launch} {g : GE} (hg : Inj g) {I : MI} {J : MJ} {Q : Int32 → MI → MJ → Prop} {x1 : Int32} {x2 : Int32} {x3 : Int32}  (h : f_School_say x1 x2 x3 I J Q) : Cm l g yX10_say cX10_say 5 (Option.some Jvm.ClassFile.FieldType.int) 3 [.ref (g.1 0), .int x1, .int x2, .int x3] I J (Pi Q) := by
  refine Cm.of (As := fun ad => [.ref (ad 0), .int x1, .int x2, .int x3]) hg pn_X10 (Nat.le_of_ble_eq_true rfl) ?_
  exact (fun Γ _ _ X Y => w_School_say_b0 X Y  h)
theorem cv_School_say {Γ : Ctx} {cc : ByteArray} {nL d pc index : Nat} {own : String} {L : List (Nat × Value)} {rest : List Value} {I : MI} {J : MJ} {Q : Int32 → MI → MJ → Prop} {x1 : Int32} {x2 : Int32} {x3 : Int32} (X : Cx Γ cc nL own d) (hd : decode cc pc = .ok (.invokevirtual index, 3)) (hlink : Cond.methodLink own index yX10_say ∈ TT)  (h : f_School_say x1 x2 x3 I J Q) (hrest : (rest.map fun v => v.category).sum ≤ 8) (hdd : 3 + 1 ≤ d) (kk : ∀ (r : Int32) (I' : MI) (J' : MJ), Q r I' J' → Wp Γ nL (pc + 3) L (.int r :: rest) I' J') : Wp Γ nL pc L (.int x3 :: .int x2 :: .int x1 :: .ref (ad Γ 0) :: rest) I J :=
  wp_callV (As := [.int x1, .int x2, .int x3]) (rest := rest) (T := TX10) (N := 9) X hd hlink mv_X10_say sh_0 (by decide) rfl (c_School_say X.inj  h) rfl rfl hrest hdd (fun v I' J' hv => by obtain ⟨r, rfl, hq⟩ := hv; exact kk r I' J' hq)
theorem dX10_act_0 : decode cX10_act 0 = .ok (.aload_n 0, 1) := by decide +kernel
theorem dX10_act_1 : decode cX10_act 1 = .ok (.iload_n 1, 1) := by decide +kernel
theorem dX10_act_2 : decode cX10_act 2 = .ok (.invokevirtual 100, 3) := by decide +kernel
theorem dX10_act_5 : decode cX10_act 5 = .ok (.istore 5, 2) := by decide +kernel
theorem dX10_act_7 : decode cX10_act 7 = .ok (.iload 5, 2) := by decide +kernel
theorem dX10_act_9 : decode cX10_act 9 = .ok (.ifCond .ne 22, 3) := by decide +kernel
theorem dX10_act_12 : decode cX10_act 12 = .ok (.aload_n 0, 1) := by decide +kernel
theorem dX10_act_13 : decode cX10_act 13 = .ok (.getfield 11, 3) := by decide +kernel
theorem dX10_act_16 : decode cX10_act 16 = .ok (.iload_n 1, 1) := by decide +kernel
theorem dX10_act_17 : decode cX10_act 17 = .ok (.aaload, 1) := by decide +kernel
theorem dX10_act_18 : decode cX10_act 18 = .ok (.getfield 76, 3) := by decide +kernel
theorem dX10_act_21 : decode cX10_act 21 = .ok (.getfield 129, 3) := by decide +kernel
theorem dX10_act_24 : decode cX10_act 24 = .ok (.iconst 3, 1) := by decide +kernel
theorem dX10_act_25 : decode cX10_act 25 = .ok (.if_icmp .eq 6, 3) := by decide +kernel
theorem dX10_act_28 : decode cX10_act 28 = .ok (.iconst 4, 1) := by decide +kernel
theorem dX10_act_29 : decode cX10_act 29 = .ok (.istore 5, 2) := by decide +kernel
theorem dX10_act_31 : decode cX10_act 31 = .ok (.iload 5, 2) := by decide +kernel
theorem dX10_act_33 : decode cX10_act 33 = .ok (.ifCond .ne 19, 3) := by decide +kernel
theorem dX10_act_36 : decode cX10_act 36 = .ok (.aload_n 0, 1) := by decide +kernel
theorem dX10_act_37 : decode cX10_act 37 = .ok (.getfield 11, 3) := by decide +kernel
theorem dX10_act_40 : decode cX10_act 40 = .ok (.iload_n 1, 1) := by decide +kernel
theorem dX10_act_41 : decode cX10_act 41 = .ok (.aaload, 1) := by decide +kernel
theorem dX10_act_42 : decode cX10_act 42 = .ok (.getfield 76, 3) := by decide +kernel
theorem dX10_act_45 : decode cX10_act 45 = .ok (.iload_n 2, 1) := by decide +kernel
theorem dX10_act_46 : decode cX10_act 46 = .ok (.iload_n 3, 1) := by decide +kernel
theorem dX10_act_47 : decode cX10_act 47 = .ok (.invokestatic 103, 3) := by decide +kernel
theorem dX10_act_50 : decode cX10_act 50 = .ok (.istore 5, 2) := by decide +kernel
theorem dX10_act_52 : decode cX10_act 52 = .ok (.iload 5, 2) := by decide +kernel
theorem dX10_act_54 : decode cX10_act 54 = .ok (.ifCond .ne 17, 3) := by decide +kernel
theorem dX10_act_57 : decode cX10_act 57 = .ok (.iload 4, 2) := by decide +kernel
theorem dX10_act_59 : decode cX10_act 59 = .ok (.ifCond .lt 9, 3) := by decide +kernel
theorem dX10_act_62 : decode cX10_act 62 = .ok (.iload 4, 2) := by decide +kernel
theorem dX10_act_64 : decode cX10_act 64 = .ok (.iconst 3, 1) := by decide +kernel
theorem dX10_act_65 : decode cX10_act 65 = .ok (.if_icmp .le 6, 3) := by decide +kernel
theorem dX10_act_68 : decode cX10_act 68 = .ok (.iconst 2, 1) := by decide +kernel
theorem dX10_act_69 : decode cX10_act 69 = .ok (.istore 5, 2) := by decide +kernel
theorem dX10_act_71 : decode cX10_act 71 = .ok (.iload 5, 2) := by decide +kernel
theorem dX10_act_73 : decode cX10_act 73 = .ok (.ifCond .eq 10, 3) := by decide +kernel
theorem dX10_act_76 : decode cX10_act 76 = .ok (.aload_n 0, 1) := by decide +kernel
theorem dX10_act_77 : decode cX10_act 77 = .ok (.iload 5, 2) := by decide +kernel
theorem dX10_act_79 : decode cX10_act 79 = .ok (.invokevirtual 73, 3) := by decide +kernel
theorem dX10_act_82 : decode cX10_act 82 = .ok (.ireturn, 1) := by decide +kernel
theorem dX10_act_83 : decode cX10_act 83 = .ok (.aload_n 0, 1) := by decide +kernel
theorem dX10_act_84 : decode cX10_act 84 = .ok (.getfield 11, 3) := by decide +kernel
theorem dX10_act_87 : decode cX10_act 87 = .ok (.iload_n 1, 1) := by decide +kernel
theorem dX10_act_88 : decode cX10_act 88 = .ok (.aaload, 1) := by decide +kernel
theorem dX10_act_89 : decode cX10_act 89 = .ok (.getfield 76, 3) := by decide +kernel
theorem dX10_act_92 : decode cX10_act 92 = .ok (.getfield 132, 3) := by decide +kernel
theorem dX10_act_95 : decode cX10_act 95 = .ok (.iload_n 2, 1) := by decide +kernel
theorem dX10_act_96 : decode cX10_act 96 = .ok (.iconst 4, 1) := by decide +kernel
theorem dX10_act_97 : decode cX10_act 97 = .ok (.imul, 1) := by decide +kernel
theorem dX10_act_98 : decode cX10_act 98 = .ok (.iload_n 3, 1) := by decide +kernel
theorem dX10_act_99 : decode cX10_act 99 = .ok (.iadd, 1) := by decide +kernel
theorem dX10_act_100 : decode cX10_act 100 = .ok (.iload 4, 2) := by decide +kernel
theorem dX10_act_102 : decode cX10_act 102 = .ok (.iastore, 1) := by decide +kernel
theorem dX10_act_103 : decode cX10_act 103 = .ok (.aload_n 0, 1) := by decide +kernel
theorem dX10_act_104 : decode cX10_act 104 = .ok (.iconst 0, 1) := by decide +kernel
theorem dX10_act_105 : decode cX10_act 105 = .ok (.invokevirtual 86, 3) := by decide +kernel
theorem dX10_act_108 : decode cX10_act 108 = .ok (.ireturn, 1) := by decide +kernel
def f_School_act_b71 (x1 : Int32) (x2 : Int32) (x3 : Int32) (x4 : Int32) (x5 : Int32) (Q : Int32 → MI → MJ → Prop) (I : MI) (J : MJ) : Prop :=
  (if x5 = 0 then vp_in x1 16 ∧ vp_in ((x2 * 4) + x3) 56 ∧ ∀ I102 : MI, I102 = sI I (1 + 64 + 7 * x1.toNatClampNeg + 1 + 3) (upd (I (1 + 64 + 7 * x1.toNatClampNeg + 1 + 3)) ((x2 * 4) + x3).toNatClampNeg x4) → f_School_done (0 : Int32) I102 J (fun r105 I105 J105 => Q r105 I105 J105) else f_School_refuse x5 I J (fun r79 I79 J79 => Q r79 I79 J79))
def f_School_act_b68 (x1 : Int32) (x2 : Int32) (x3 : Int32) (x4 : Int32) (Q : Int32 → MI → MJ → Prop) (I : MI) (J : MJ) : Prop :=
  f_School_act_b71 x1 x2 x3 x4 2 Q I J
def f_School_act_b52 (x1 : Int32) (x2 : Int32) (x3 : Int32) (x4 : Int32) (x5 : Int32) (Q : Int32 → MI → MJ → Prop) (I : MI) (J : MJ) : Prop :=
  (if x5 = 0 then (if x4 < 0 then f_School_act_b68 x1 x2 x3 x4 Q I J else (if x4 ≤ 3 then f_School_act_b71 x1 x2 x3 x4 x5 Q I J else f_School_act_b68 x1 x2 x3 x4 Q I J)) else f_School_act_b71 x1 x2 x3 x4 x5 Q I J)
def f_School_act_b31 (x1 : Int32) (x2 : Int32) (x3 : Int32) (x4 : Int32) (x5 : Int32) (Q : Int32 → MI → MJ → Prop) (I : MI) (J : MJ) : Prop :=
  (if x5 = 0 then vp_in x1 16 ∧ f_School_takeFault (1 + 64 + 7 * x1.toNatClampNeg + 1) x2 x3 I J (fun r47 I47 J47 => f_School_act_b52 x1 x2 x3 x4 r47 Q I47 J47) else f_School_act_b52 x1 x2 x3 x4 x5 Q I J)
def f_School_act (x1 : Int32) (x2 : Int32) (x3 : Int32) (x4 : Int32) (I : MI) (J : MJ) (Q : Int32 → MI → MJ → Prop) : Prop :=
  f_School_machineFault x1 I J (fun r2 I2 J2 => (if r2 = 0 then vp_in x1 16 ∧ (if (I2 (1 + 64 + 7 * x1.toNatClampNeg + 1) 0) = 3 then f_School_act_b31 x1 x2 x3 x4 r2 Q I2 J2 else f_School_act_b31 x1 x2 x3 x4 4 Q I2 J2) else f_School_act_b31 x1 x2 x3 x4 r2 Q I2 J2))
set_option maxRecDepth 100000 in
set_option maxHeartbeats 4000000 in
theorem w_School_act_b71 {Γ : Ctx} {Q : Int32 → MI → MJ → Prop} {x1 : Int32} {x2 : Int32} {x3 : Int32} {x4 : Int32} {x5 : Int32}  (X : Cx Γ cX10_act 6 RX10 3) (Y : Rt Γ (Pi Q) (Option.some Jvm.ClassFile.FieldType.int))   {I : MI} {J : MJ} (h : f_School_act_b71 x1 x2 x3 x4 x5 Q I J) : Wp Γ 6 71 [(0, .ref (ad Γ 0)), (1, .int x1), (2, .int x2), (3, .int x3), (4, .int x4), (5, .int x5)] [] I J := by
  unfold f_School_act_b71 at h
  refine wp_iload X dX10_act_71 5 rfl ?_
  refine wp_if_eq (tgt := 83) X dX10_act_73 (by decide) (fun hc => ?_) (fun hc => ?_)
  · have h := ite_t h hc
    refine wp_aload_n X dX10_act_83 0 rfl ?_
    refine gf_X10_11 (o' := 1) X sh_0 rfl dX10_act_84 ?_
    refine wp_iload_n X dX10_act_87 1 rfl ?_
    obtain ⟨hb88, h⟩ := h
    refine wp_aald X sh_1 hb88 dX10_act_88 ?_
    refine gf_X10_76 (o' := 1 + 64 + 7 * x1.toNatClampNeg + 1) X ((okP_at hb88).1) rfl dX10_act_89 ?_
    refine gf_X10_132 (o' := 1 + 64 + 7 * x1.toNatClampNeg + 1 + 3) X ((okP_at hb88).2.1.1) rfl dX10_act_92 ?_
    refine wp_iload_n X dX10_act_95 2 rfl ?_
    refine wp_iconst X dX10_act_96 ic_4 ?_
    refine wp_imul X dX10_act_97 ?_
    refine wp_iload_n X dX10_act_98 3 rfl ?_
    refine wp_iadd X dX10_act_99 ?_
    refine wp_iload X dX10_act_100 4 rfl ?_
    obtain ⟨hb102, h⟩ := h
    refine wp_iast X (((okP_at hb88).2.1).2.2.2.1) hb102 dX10_act_102 ?_
    refine wp_memI (fun I102 eI102 => ?_)
    have h := h I102 eI102
    refine wp_aload_n X dX10_act_103 0 rfl ?_
    refine wp_iconst X dX10_act_104 ic_0 ?_
    refine cv_School_done X dX10_act_105 ml_X10_86  h (Nat.le_of_ble_eq_true rfl) (by decide) (fun r105 I105 J105 h => ?_)
    exact wp_iret X Y dX10_act_108 ⟨_, rfl, h⟩
  · have h := ite_f h hc
    refine wp_aload_n X dX10_act_76 0 rfl ?_
    refine wp_iload X dX10_act_77 5 rfl ?_
    refine cv_School_refuse X dX10_act_79 ml_X10_73  h (Nat.le_of_ble_eq_true rfl) (by decide) (fun r79 I79 J79 h => ?_)
    exact wp_iret X Y dX10_act_82 ⟨_, rfl, h⟩

set_option maxRecDepth 100000 in
set_option maxHeartbeats 4000000 in
theorem w_School_act_b68 {Γ : Ctx} {Q : Int32 → MI → MJ → Prop} {x1 : Int32} {x2 : Int32} {x3 : Int32} {x4 : Int32}  (X : Cx Γ cX10_act 6 RX10 3) (Y : Rt Γ (Pi Q) (Option.some Jvm.ClassFile.FieldType.int))   {I : MI} {J : MJ} (h : f_School_act_b68 x1 x2 x3 x4 Q I J) : Wp Γ 6 68 [(0, .ref (ad Γ 0)), (1, .int x1), (2, .int x2), (3, .int x3), (4, .int x4)] [] I J := by
  unfold f_School_act_b68 at h
  refine wp_iconst X dX10_act_68 ic_2 ?_
  refine wp_istore (L' := [(5, .int 2), (0, .ref (ad Γ 0)), (1, .int x1), (2, .int x2), (3, .int x3), (4, .int x4)]) X dX10_act_69 (by decide) rfl ?_
  refine wp_sub X [1, 2, 3, 4, 5, 0] rfl ?_
  exact w_School_act_b71 X Y  h

set_option maxRecDepth 100000 in
set_option maxHeartbeats 4000000 in
theorem w_School_act_b52 {Γ : Ctx} {Q : Int32 → MI → MJ → Prop} {x1 : Int32} {x2 : Int32} {x3 : Int32} {x4 : Int32} {x5 : Int32}  (X : Cx Γ cX10_act 6 RX10 3) (Y : Rt Γ (Pi Q) (Option.some Jvm.ClassFile.FieldType.int))   {I : MI} {J : MJ} (h : f_School_act_b52 x1 x2 x3 x4 x5 Q I J) : Wp Γ 6 52 [(0, .ref (ad Γ 0)), (1, .int x1), (2, .int x2), (3, .int x3), (4, .int x4), (5, .int x5)] [] I J := by
  unfold f_School_act_b52 at h
  refine wp_iload X dX10_act_52 5 rfl ?_
  refine wp_if_ne (tgt := 71) X dX10_act_54 (by decide) (fun hc => ?_) (fun hc => ?_)
  · have h := ite_f h hc
    exact w_School_act_b71 X Y  h
  · have h := ite_t h hc
    refine wp_iload X dX10_act_57 4 rfl ?_
    refine wp_if_lt (tgt := 68) X dX10_act_59 (by decide) (fun hc => ?_) (fun hc => ?_)
    · have h := ite_t h hc
      refine wp_sub X [0, 1, 2, 3, 4] rfl ?_
      exact w_School_act_b68 X Y  h
    · have h := ite_f h hc
      refine wp_iload X dX10_act_62 4 rfl ?_
      refine wp_iconst X dX10_act_64 ic_3 ?_
      refine wp_icmp_le (tgt := 71) X dX10_act_65 (by decide) (fun hc => ?_) (fun hc => ?_)
      · have h := ite_t h hc
        exact w_School_act_b71 X Y  h
      · have h := ite_f h hc
        refine wp_sub X [0, 1, 2, 3, 4] rfl ?_
        exact w_School_act_b68 X Y  h

set_option maxRecDepth 100000 in
set_option maxHeartbeats 4000000 in
theorem w_School_act_b31 {Γ : Ctx} {Q : Int32 → MI → MJ → Prop} {x1 : Int32} {x2 : Int32} {x3 : Int32} {x4 : Int32} {x5 : Int32}  (X : Cx Γ cX10_act 6 RX10 3) (Y : Rt Γ (Pi Q) (Option.some Jvm.ClassFile.FieldType.int))   {I : MI} {J : MJ} (h : f_School_act_b31 x1 x2 x3 x4 x5 Q I J) : Wp Γ 6 31 [(0, .ref (ad Γ 0)), (1, .int x1), (2, .int x2), (3, .int x3), (4, .int x4), (5, .int x5)] [] I J := by
  unfold f_School_act_b31 at h
  refine wp_iload X dX10_act_31 5 rfl ?_
  refine wp_if_ne (tgt := 52) X dX10_act_33 (by decide) (fun hc => ?_) (fun hc => ?_)
  · have h := ite_f h hc
    exact w_School_act_b52 X Y  h
  · have h := ite_t h hc
    refine wp_aload_n X dX10_act_36 0 rfl ?_
    refine gf_X10_11 (o' := 1) X sh_0 rfl dX10_act_37 ?_
    refine wp_iload_n X dX10_act_40 1 rfl ?_
    obtain ⟨hb41, h⟩ := h
    refine wp_aald X sh_1 hb41 dX10_act_41 ?_
    refine gf_X10_76 (o' := 1 + 64 + 7 * x1.toNatClampNeg + 1) X ((okP_at hb41).1) rfl dX10_act_42 ?_
    refine wp_iload_n X dX10_act_45 2 rfl ?_
    refine wp_iload_n X dX10_act_46 3 rfl ?_
    refine cs_School_takeFault X dX10_act_47 ml_X10_103 ((okP_at hb41).2.1) h (Nat.le_of_ble_eq_true rfl) (by decide) (fun r47 I47 J47 h => ?_)
    refine wp_istore (L' := [(5, .int r47), (0, .ref (ad Γ 0)), (1, .int x1), (2, .int x2), (3, .int x3), (4, .int x4)]) X dX10_act_50 (by decide) rfl ?_
    refine wp_sub X [1, 2, 3, 4, 5, 0] rfl ?_
    exact w_School_act_b52 X Y  h

set_option maxRecDepth 100000 in
set_option maxHeartbeats 4000000 in
theorem w_School_act_b0 {Γ : Ctx} {Q : Int32 → MI → MJ → Prop} {x1 : Int32} {x2 : Int32} {x3 : Int32} {x4 : Int32}  (X : Cx Γ cX10_act 6 RX10 3) (Y : Rt Γ (Pi Q) (Option.some Jvm.ClassFile.FieldType.int))   {I : MI} {J : MJ} (h : f_School_act x1 x2 x3 x4 I J Q) : Wp Γ 6 0 [(0, .ref (ad Γ 0)), (1, .int x1), (2, .int x2), (3, .int x3), (4, .int x4)] [] I J := by
  unfold f_School_act at h
  refine wp_aload_n X dX10_act_0 0 rfl ?_
  refine wp_iload_n X dX10_act_1 1 rfl ?_
  refine cv_School_machineFault X dX10_act_2 ml_X10_100  h (Nat.le_of_ble_eq_true rfl) (by decide) (fun r2 I2 J2 h => ?_)
  refine wp_istore (L' := [(5, .int r2), (0, .ref (ad Γ 0)), (1, .int x1), (2, .int x2), (3, .int x3), (4, .int x4)]) X dX10_act_5 (by decide) rfl ?_
  refine wp_iload X dX10_act_7 0 rfl ?_
  refine wp_if_ne (tgt := 31) X dX10_act_9 (by decide) (fun hc => ?_) (fun hc => ?_)
  · have h := ite_f h hc
    refine wp_sub X [1, 2, 3, 4, 5, 0] rfl ?_
    exact w_School_act_b31 X Y  h
  · have h := ite_t h hc
    refine wp_aload_n X dX10_act_12 1 rfl ?_
    refine gf_X10_11 (o' := 1) X sh_0 rfl dX10_act_13 ?_
    refine wp_iload_n X dX10_act_16 2 rfl ?_
    obtain ⟨hb17, h⟩ := h
    refine wp_aald X sh_1 hb17 dX10_act_17 ?_
    refine gf_X10_76 (o' := 1 + 64 + 7 * x1.toNatClampNeg + 1) X ((okP_at hb17).1) rfl dX10_act_18 ?_
    refine gf_X10_129 X ((okP_at hb17).2.1.1) dX10_act_21 ?_
    refine wp_iconst X dX10_act_24 ic_3 ?_
    refine wp_icmp_eq (tgt := 31) X dX10_act_25 (by decide) (fun hc => ?_) (fun hc => ?_)
    · have h := ite_t h hc
      refine wp_sub X [1, 2, 3, 4, 5, 0] rfl ?_
      exact w_School_act_b31 X Y  h
    · have h := ite_f h hc
      refine wp_iconst X dX10_act_28 ic_4 ?_
      refine wp_istore (L' := [(5, .int 4), (0, .ref (ad Γ 0)), (1, .int x1), (2, .int x2), (3, .int x3), (4, .int x4)]) X dX10_act_29 (by decide) rfl ?_
      refine wp_sub X [1, 2, 3, 4, 5, 0] rfl ?_
      exact w_School_act_b31 X Y  h

theorem c_School_act {l : Launch} {g : GE} (hg : Inj g) {I : MI} {J : MJ} {Q : Int32 → MI → MJ → Prop} {x1 : Int32} {x2 : Int32} {x3 : Int32} {x4 : Int32}  (h : f_School_act x1 x2 x3 x4 I J Q) : Cm l g yX10_act cX10_act 6 (Option.some Jvm.ClassFile.FieldType.int) 3 [.ref (g.1 0), .int x1, .int x2, .int x3, .int x4] I J (Pi Q) := by
  refine Cm.of (As := fun ad => [.ref (ad 0), .int x1, .int x2, .int x3, .int x4]) hg pn_X10 (Nat.le_of_ble_eq_true rfl) ?_
  exact (fun Γ _ _ X Y => w_School_act_b0 X Y  h)
theorem cv_School_act {Γ : Ctx} {cc : ByteArray} {nL d pc index : Nat} {own : String} {L : List (Nat × Value)} {rest : List Value} {I : MI} {J : MJ} {Q : Int32 → MI → MJ → Prop} {x1 : Int32} {x2 : Int32} {x3 : Int32} {x4 : Int32} (X : Cx Γ cc nL own d) (hd : decode cc pc = .ok (.invokevirtual index, 3)) (hlink : Cond.methodLink own index yX10_act ∈ TT)  (h : f_School_act x1 x2 x3 x4 I J Q) (hrest : (rest.map fun v => v.category).sum ≤ 8) (hdd : 3 + 1 ≤ d) (kk : ∀ (r : Int32) (I' : MI) (J' : MJ), Q r I' J' → Wp Γ nL (pc + 3) L (.int r :: rest) I' J') : Wp Γ nL pc L (.int x4 :: .int x3 :: .int x2 :: .int x1 :: .ref (ad Γ 0) :: rest) I J :=
  wp_callV (As := [.int x1, .int x2, .int x3, .int x4]) (rest := rest) (T := TX10) (N := 9) X hd hlink mv_X10_act sh_0 (by decide) rfl (c_School_act X.inj  h) rfl rfl hrest hdd (fun v I' J' hv => by obtain ⟨r, rfl, hq⟩ := hv; exact kk r I' J' hq)
theorem dX10_copyFault_0 : decode cX10_copyFault 0 = .ok (.aload_n 0, 1) := by decide +kernel
theorem dX10_copyFault_1 : decode cX10_copyFault 1 = .ok (.iload_n 1, 1) := by decide +kernel
theorem dX10_copyFault_2 : decode cX10_copyFault 2 = .ok (.invokevirtual 118, 3) := by decide +kernel
theorem dX10_copyFault_5 : decode cX10_copyFault 5 = .ok (.ifCond .eq 11, 3) := by decide +kernel
theorem dX10_copyFault_8 : decode cX10_copyFault 8 = .ok (.aload_n 0, 1) := by decide +kernel
theorem dX10_copyFault_9 : decode cX10_copyFault 9 = .ok (.iload_n 3, 1) := by decide +kernel
theorem dX10_copyFault_10 : decode cX10_copyFault 10 = .ok (.invokevirtual 118, 3) := by decide +kernel
theorem dX10_copyFault_13 : decode cX10_copyFault 13 = .ok (.ifCond .ne 5, 3) := by decide +kernel
theorem dX10_copyFault_16 : decode cX10_copyFault 16 = .ok (.iconst 2, 1) := by decide +kernel
theorem dX10_copyFault_17 : decode cX10_copyFault 17 = .ok (.ireturn, 1) := by decide +kernel
theorem dX10_copyFault_18 : decode cX10_copyFault 18 = .ok (.aload_n 0, 1) := by decide +kernel
theorem dX10_copyFault_19 : decode cX10_copyFault 19 = .ok (.getfield 313, 3) := by decide +kernel
theorem dX10_copyFault_22 : decode cX10_copyFault 22 = .ok (.iload_n 1, 1) := by decide +kernel
theorem dX10_copyFault_23 : decode cX10_copyFault 23 = .ok (.iaload, 1) := by decide +kernel
theorem dX10_copyFault_24 : decode cX10_copyFault 24 = .ok (.iconst (-1), 1) := by decide +kernel
theorem dX10_copyFault_25 : decode cX10_copyFault 25 = .ok (.if_icmp .eq 13, 3) := by decide +kernel
theorem dX10_copyFault_28 : decode cX10_copyFault 28 = .ok (.aload_n 0, 1) := by decide +kernel
theorem dX10_copyFault_29 : decode cX10_copyFault 29 = .ok (.getfield 313, 3) := by decide +kernel
theorem dX10_copyFault_32 : decode cX10_copyFault 32 = .ok (.iload_n 3, 1) := by decide +kernel
theorem dX10_copyFault_33 : decode cX10_copyFault 33 = .ok (.iaload, 1) := by decide +kernel
theorem dX10_copyFault_34 : decode cX10_copyFault 34 = .ok (.iconst (-1), 1) := by decide +kernel
theorem dX10_copyFault_35 : decode cX10_copyFault 35 = .ok (.if_icmp .ne 5, 3) := by decide +kernel
theorem dX10_copyFault_38 : decode cX10_copyFault 38 = .ok (.iconst 1, 1) := by decide +kernel
theorem dX10_copyFault_39 : decode cX10_copyFault 39 = .ok (.ireturn, 1) := by decide +kernel
theorem dX10_copyFault_40 : decode cX10_copyFault 40 = .ok (.iload_n 2, 1) := by decide +kernel
theorem dX10_copyFault_41 : decode cX10_copyFault 41 = .ok (.ifCond .lt 32, 3) := by decide +kernel
theorem dX10_copyFault_44 : decode cX10_copyFault 44 = .ok (.iload 4, 2) := by decide +kernel
theorem dX10_copyFault_46 : decode cX10_copyFault 46 = .ok (.ifCond .lt 27, 3) := by decide +kernel
theorem dX10_copyFault_49 : decode cX10_copyFault 49 = .ok (.iload 4, 2) := by decide +kernel
theorem dX10_copyFault_51 : decode cX10_copyFault 51 = .ok (.aload_n 0, 1) := by decide +kernel
theorem dX10_copyFault_52 : decode cX10_copyFault 52 = .ok (.getfield 313, 3) := by decide +kernel
theorem dX10_copyFault_55 : decode cX10_copyFault 55 = .ok (.iload_n 3, 1) := by decide +kernel
theorem dX10_copyFault_56 : decode cX10_copyFault 56 = .ok (.iaload, 1) := by decide +kernel
theorem dX10_copyFault_57 : decode cX10_copyFault 57 = .ok (.if_icmp .gt 16, 3) := by decide +kernel
theorem dX10_copyFault_60 : decode cX10_copyFault 60 = .ok (.iload_n 2, 1) := by decide +kernel
theorem dX10_copyFault_61 : decode cX10_copyFault 61 = .ok (.aload_n 0, 1) := by decide +kernel
theorem dX10_copyFault_62 : decode cX10_copyFault 62 = .ok (.getfield 313, 3) := by decide +kernel
theorem dX10_copyFault_65 : decode cX10_copyFault 65 = .ok (.iload_n 1, 1) := by decide +kernel
theorem dX10_copyFault_66 : decode cX10_copyFault 66 = .ok (.iaload, 1) := by decide +kernel
theorem dX10_copyFault_67 : decode cX10_copyFault 67 = .ok (.iload 4, 2) := by decide +kernel
theorem dX10_copyFault_69 : decode cX10_copyFault 69 = .ok (.isub, 1) := by decide +kernel
theorem dX10_copyFault_70 : decode cX10_copyFault 70 = .ok (.if_icmp .le 7, 3) := by decide +kernel
theorem dX10_copyFault_73 : decode cX10_copyFault 73 = .ok (.iconst 1, 1) := by decide +kernel
theorem dX10_copyFault_74 : decode cX10_copyFault 74 = .ok (.goto 4, 3) := by decide +kernel
theorem dX10_copyFault_77 : decode cX10_copyFault 77 = .ok (.iconst 0, 1) := by decide +kernel
theorem dX10_copyFault_78 : decode cX10_copyFault 78 = .ok (.istore 5, 2) := by decide +kernel
theorem dX10_copyFault_80 : decode cX10_copyFault 80 = .ok (.iload 5, 2) := by decide +kernel
theorem dX10_copyFault_82 : decode cX10_copyFault 82 = .ok (.ifCond .eq 7, 3) := by decide +kernel
theorem dX10_copyFault_85 : decode cX10_copyFault 85 = .ok (.iconst 2, 1) := by decide +kernel
theorem dX10_copyFault_86 : decode cX10_copyFault 86 = .ok (.goto 4, 3) := by decide +kernel
theorem dX10_copyFault_89 : decode cX10_copyFault 89 = .ok (.iconst 0, 1) := by decide +kernel
theorem dX10_copyFault_90 : decode cX10_copyFault 90 = .ok (.ireturn, 1) := by decide +kernel
def f_School_copyFault_b78 (s0 : Int32) (Q : Int32 → MI → MJ → Prop) (I : MI) (J : MJ) : Prop :=
  (if s0 = 0 then Q 0 I J else Q 2 I J)
def f_School_copyFault_b73  (Q : Int32 → MI → MJ → Prop) (I : MI) (J : MJ) : Prop :=
  f_School_copyFault_b78 1 Q I J
def f_School_copyFault (x0 : Nat) (x1 : Int32) (x2 : Int32) (x3 : Int32) (x4 : Int32) (I : MI) (J : MJ) (Q : Int32 → MI → MJ → Prop) : Prop :=
  f_Machine_hasState x0 x1 I J (fun r2 I2 J2 => (if r2 = 0 then Q 2 I2 J2 else f_Machine_hasState x0 x3 I2 J2 (fun r10 I10 J10 => (if r10 = 0 then Q 2 I10 J10 else vp_in x1 14 ∧ (if (I10 (x0 + 1) x1.toNatClampNeg) = (-1) then Q 1 I10 J10 else vp_in x3 14 ∧ (if (I10 (x0 + 1) x3.toNatClampNeg) = (-1) then Q 1 I10 J10 else (if x2 < 0 then f_School_copyFault_b73 Q I10 J10 else (if x4 < 0 then f_School_copyFault_b73 Q I10 J10 else vp_in x3 14 ∧ (if (I10 (x0 + 1) x3.toNatClampNeg) < x4 then f_School_copyFault_b73 Q I10 J10 else vp_in x1 14 ∧ (if x2 ≤ ((I10 (x0 + 1) x1.toNatClampNeg) - x4) then f_School_copyFault_b78 0 Q I10 J10 else f_School_copyFault_b73 Q I10 J10))))))))))
set_option maxRecDepth 100000 in
set_option maxHeartbeats 4000000 in
theorem w_School_copyFault_b78 {Γ : Ctx} {Q : Int32 → MI → MJ → Prop} {s0 : Int32}  (X : Cx Γ cX10_copyFault 6 RX10 1) (Y : Rt Γ (Pi Q) (Option.some Jvm.ClassFile.FieldType.int))   {I : MI} {J : MJ} (h : f_School_copyFault_b78 s0 Q I J) : Wp Γ 6 78 [] [.int s0] I J := by
  unfold f_School_copyFault_b78 at h
  refine wp_istore (L' := [(5, .int s0)]) X dX10_copyFault_78 (by decide) rfl ?_
  refine wp_iload X dX10_copyFault_80 0 rfl ?_
  refine wp_if_eq (tgt := 89) X dX10_copyFault_82 (by decide) (fun hc => ?_) (fun hc => ?_)
  · have h := ite_t h hc
    refine wp_iconst X dX10_copyFault_89 ic_0 ?_
    exact wp_iret X Y dX10_copyFault_90 ⟨_, rfl, h⟩
  · have h := ite_f h hc
    refine wp_iconst X dX10_copyFault_85 ic_2 ?_
    refine wp_goto (tgt := 90) X dX10_copyFault_86 (by decide) ?_
    exact wp_iret X Y dX10_copyFault_90 ⟨_, rfl, h⟩

set_option maxRecDepth 100000 in
set_option maxHeartbeats 4000000 in
theorem w_School_copyFault_b73 {Γ : Ctx} {Q : Int32 → MI → MJ → Prop}   (X : Cx Γ cX10_copyFault 6 RX10 1) (Y : Rt Γ (Pi Q) (Option.some Jvm.ClassFile.FieldType.int))   {I : MI} {J : MJ} (h : f_School_copyFault_b73 Q I J) : Wp Γ 6 73 [] [] I J := by
  unfold f_School_copyFault_b73 at h
  refine wp_iconst X dX10_copyFault_73 ic_1 ?_
  refine wp_goto (tgt := 78) X dX10_copyFault_74 (by decide) ?_
  exact w_School_copyFault_b78 X Y  h

set_option maxRecDepth 100000 in
set_option maxHeartbeats 4000000 in
theorem w_School_copyFault_b0 {Γ : Ctx} {Q : Int32 → MI → MJ → Prop} {x0 : Nat} {x1 : Int32} {x2 : Int32} {x3 : Int32} {x4 : Int32}  (X : Cx Γ cX10_copyFault 6 RX10 1) (Y : Rt Γ (Pi Q) (Option.some Jvm.ClassFile.FieldType.int)) (hx0 : okM x0)  {I : MI} {J : MJ} (h : f_School_copyFault x0 x1 x2 x3 x4 I J Q) : Wp Γ 6 0 [(0, .ref (ad Γ x0)), (1, .int x1), (2, .int x2), (3, .int x3), (4, .int x4)] [] I J := by
  unfold f_School_copyFault at h
  refine wp_aload_n X dX10_copyFault_0 0 rfl ?_
  refine wp_iload_n X dX10_copyFault_1 1 rfl ?_
  refine cv_Machine_hasState X dX10_copyFault_2 ml_X10_118 hx0 h (Nat.le_of_ble_eq_true rfl) (by decide) (fun r2 I2 J2 h => ?_)
  refine wp_if_eq (tgt := 16) X dX10_copyFault_5 (by decide) (fun hc => ?_) (fun hc => ?_)
  · have h := ite_t h hc
    refine wp_iconst X dX10_copyFault_16 ic_2 ?_
    exact wp_iret X Y dX10_copyFault_17 ⟨_, rfl, h⟩
  · have h := ite_f h hc
    refine wp_aload_n X dX10_copyFault_8 0 rfl ?_
    refine wp_iload_n X dX10_copyFault_9 3 rfl ?_
    refine cv_Machine_hasState X dX10_copyFault_10 ml_X10_118 hx0 h (Nat.le_of_ble_eq_true rfl) (by decide) (fun r10 I10 J10 h => ?_)
    refine wp_if_ne (tgt := 18) X dX10_copyFault_13 (by decide) (fun hc => ?_) (fun hc => ?_)
    · have h := ite_f h hc
      refine wp_aload_n X dX10_copyFault_18 0 rfl ?_
      refine gf_X10_313 (o' := x0 + 1) X hx0.1 rfl dX10_copyFault_19 ?_
      refine wp_iload_n X dX10_copyFault_22 1 rfl ?_
      obtain ⟨hb23, h⟩ := h
      refine wp_iald X hx0.2.1 hb23 dX10_copyFault_23 ?_
      refine wp_iconst X dX10_copyFault_24 ic_m1 ?_
      refine wp_icmp_eq (tgt := 38) X dX10_copyFault_25 (by decide) (fun hc => ?_) (fun hc => ?_)
      · have h := ite_t h hc
        refine wp_iconst X dX10_copyFault_38 ic_1 ?_
        exact wp_iret X Y dX10_copyFault_39 ⟨_, rfl, h⟩
      · have h := ite_f h hc
        refine wp_aload_n X dX10_copyFault_28 0 rfl ?_
        refine gf_X10_313 (o' := x0 + 1) X hx0.1 rfl dX10_copyFault_29 ?_
        refine wp_iload_n X dX10_copyFault_32 3 rfl ?_
        obtain ⟨hb33, h⟩ := h
        refine wp_iald X hx0.2.1 hb33 dX10_copyFault_33 ?_
        refine wp_iconst X dX10_copyFault_34 ic_m1 ?_
        refine wp_icmp_ne (tgt := 40) X dX10_copyFault_35 (by decide) (fun hc => ?_) (fun hc => ?_)
        · have h := ite_f h hc
          refine wp_iload_n X dX10_copyFault_40 2 rfl ?_
          refine wp_if_lt (tgt := 73) X dX10_copyFault_41 (by decide) (fun hc => ?_) (fun hc => ?_)
          · have h := ite_t h hc
            refine wp_sub X [] rfl ?_
            exact w_School_copyFault_b73 X Y  h
          · have h := ite_f h hc
            refine wp_iload X dX10_copyFault_44 4 rfl ?_
            refine wp_if_lt (tgt := 73) X dX10_copyFault_46 (by decide) (fun hc => ?_) (fun hc => ?_)
            · have h := ite_t h hc
              refine wp_sub X [] rfl ?_
              exact w_School_copyFault_b73 X Y  h
            · have h := ite_f h hc
              refine wp_iload X dX10_copyFault_49 4 rfl ?_
              refine wp_aload_n X dX10_copyFault_51 0 rfl ?_
              refine gf_X10_313 (o' := x0 + 1) X hx0.1 rfl dX10_copyFault_52 ?_
              refine wp_iload_n X dX10_copyFault_55 3 rfl ?_
              obtain ⟨hb56, h⟩ := h
              refine wp_iald X hx0.2.1 hb56 dX10_copyFault_56 ?_
              refine wp_icmp_gt (tgt := 73) X dX10_copyFault_57 (by decide) (fun hc => ?_) (fun hc => ?_)
              · have h := ite_t h hc
                refine wp_sub X [] rfl ?_
                exact w_School_copyFault_b73 X Y  h
              · have h := ite_f h hc
                refine wp_iload_n X dX10_copyFault_60 2 rfl ?_
                refine wp_aload_n X dX10_copyFault_61 0 rfl ?_
                refine gf_X10_313 (o' := x0 + 1) X hx0.1 rfl dX10_copyFault_62 ?_
                refine wp_iload_n X dX10_copyFault_65 1 rfl ?_
                obtain ⟨hb66, h⟩ := h
                refine wp_iald X hx0.2.1 hb66 dX10_copyFault_66 ?_
                refine wp_iload X dX10_copyFault_67 4 rfl ?_
                refine wp_isub X dX10_copyFault_69 ?_
                refine wp_icmp_le (tgt := 77) X dX10_copyFault_70 (by decide) (fun hc => ?_) (fun hc => ?_)
                · have h := ite_t h hc
                  refine wp_iconst X dX10_copyFault_77 ic_0 ?_
                  refine wp_sub X [] rfl ?_
                  exact w_School_copyFault_b78 X Y  h
                · have h := ite_f h hc
                  refine wp_sub X [] rfl ?_
                  exact w_School_copyFault_b73 X Y  h
        · have h := ite_t h hc
          refine wp_iconst X dX10_copyFault_38 ic_1 ?_
          exact wp_iret X Y dX10_copyFault_39 ⟨_, rfl, h⟩
    · have h := ite_t h hc
      refine wp_iconst X dX10_copyFault_16 ic_2 ?_
      exact wp_iret X Y dX10_copyFault_17 ⟨_, rfl, h⟩

theorem c_School_copyFault {l : Launch} {g : GE} (hg : Inj g) {I : MI} {J : MJ} {Q : Int32 → MI → MJ → Prop} {x0 : Nat} {x1 : Int32} {x2 : Int32} {x3 : Int32} {x4 : Int32} (hx0 : okM x0) (h : f_School_copyFault x0 x1 x2 x3 x4 I J Q) : Cm l g yX10_copyFault cX10_copyFault 6 (Option.some Jvm.ClassFile.FieldType.int) 1 [.ref (g.1 x0), .int x1, .int x2, .int x3, .int x4] I J (Pi Q) := by
  refine Cm.of (As := fun ad => [.ref (ad x0), .int x1, .int x2, .int x3, .int x4]) hg pn_X10 (Nat.le_of_ble_eq_true rfl) ?_
  exact (fun Γ _ _ X Y => w_School_copyFault_b0 X Y hx0 h)
theorem cs_School_copyFault {Γ : Ctx} {cc : ByteArray} {nL d pc index : Nat} {own : String} {L : List (Nat × Value)} {rest : List Value} {I : MI} {J : MJ} {Q : Int32 → MI → MJ → Prop} {x0 : Nat} {x1 : Int32} {x2 : Int32} {x3 : Int32} {x4 : Int32} (X : Cx Γ cc nL own d) (hd : decode cc pc = .ok (.invokestatic index, 3)) (hlink : Cond.methodLink own index yX10_copyFault ∈ TT) (hx0 : okM x0) (h : f_School_copyFault x0 x1 x2 x3 x4 I J Q) (hrest : (rest.map fun v => v.category).sum ≤ 8) (hdd : 1 + 1 ≤ d) (kk : ∀ (r : Int32) (I' : MI) (J' : MJ), Q r I' J' → Wp Γ nL (pc + 3) L (.int r :: rest) I' J') : Wp Γ nL pc L (.int x4 :: .int x3 :: .int x2 :: .int x1 :: .ref (ad Γ x0) :: rest) I J :=
  wp_callS (As := [.ref (ad Γ x0), .int x1, .int x2, .int x3, .int x4]) (rest := rest) X hd hlink mv_X10_copyFault (c_School_copyFault X.inj hx0 h) rfl rfl hrest hdd (fun v I' J' hv => by obtain ⟨r, rfl, hq⟩ := hv; exact kk r I' J' hq)
theorem dX3_copyTakes_0 : decode cX3_copyTakes 0 = .ok (.aload_n 0, 1) := by decide +kernel
theorem dX3_copyTakes_1 : decode cX3_copyTakes 1 = .ok (.getfield 15, 3) := by decide +kernel
theorem dX3_copyTakes_4 : decode cX3_copyTakes 4 = .ok (.iload_n 1, 1) := by decide +kernel
theorem dX3_copyTakes_5 : decode cX3_copyTakes 5 = .ok (.iconst 4, 1) := by decide +kernel
theorem dX3_copyTakes_6 : decode cX3_copyTakes 6 = .ok (.imul, 1) := by decide +kernel
theorem dX3_copyTakes_7 : decode cX3_copyTakes 7 = .ok (.iload_n 2, 1) := by decide +kernel
theorem dX3_copyTakes_8 : decode cX3_copyTakes 8 = .ok (.iadd, 1) := by decide +kernel
theorem dX3_copyTakes_9 : decode cX3_copyTakes 9 = .ok (.aload_n 0, 1) := by decide +kernel
theorem dX3_copyTakes_10 : decode cX3_copyTakes 10 = .ok (.getfield 15, 3) := by decide +kernel
theorem dX3_copyTakes_13 : decode cX3_copyTakes 13 = .ok (.iload_n 3, 1) := by decide +kernel
theorem dX3_copyTakes_14 : decode cX3_copyTakes 14 = .ok (.iconst 4, 1) := by decide +kernel
theorem dX3_copyTakes_15 : decode cX3_copyTakes 15 = .ok (.imul, 1) := by decide +kernel
theorem dX3_copyTakes_16 : decode cX3_copyTakes 16 = .ok (.iload 4, 2) := by decide +kernel
theorem dX3_copyTakes_18 : decode cX3_copyTakes 18 = .ok (.invokestatic 40, 3) := by decide +kernel
theorem dX3_copyTakes_21 : decode cX3_copyTakes 21 = .ok (.aload_n 0, 1) := by decide +kernel
theorem dX3_copyTakes_22 : decode cX3_copyTakes 22 = .ok (.getfield 18, 3) := by decide +kernel
theorem dX3_copyTakes_25 : decode cX3_copyTakes 25 = .ok (.iload_n 1, 1) := by decide +kernel
theorem dX3_copyTakes_26 : decode cX3_copyTakes 26 = .ok (.iconst 4, 1) := by decide +kernel
theorem dX3_copyTakes_27 : decode cX3_copyTakes 27 = .ok (.imul, 1) := by decide +kernel
theorem dX3_copyTakes_28 : decode cX3_copyTakes 28 = .ok (.iload_n 2, 1) := by decide +kernel
theorem dX3_copyTakes_29 : decode cX3_copyTakes 29 = .ok (.iadd, 1) := by decide +kernel
theorem dX3_copyTakes_30 : decode cX3_copyTakes 30 = .ok (.aload_n 0, 1) := by decide +kernel
theorem dX3_copyTakes_31 : decode cX3_copyTakes 31 = .ok (.getfield 18, 3) := by decide +kernel
theorem dX3_copyTakes_34 : decode cX3_copyTakes 34 = .ok (.iload_n 3, 1) := by decide +kernel
theorem dX3_copyTakes_35 : decode cX3_copyTakes 35 = .ok (.iconst 4, 1) := by decide +kernel
theorem dX3_copyTakes_36 : decode cX3_copyTakes 36 = .ok (.imul, 1) := by decide +kernel
theorem dX3_copyTakes_37 : decode cX3_copyTakes 37 = .ok (.iload 4, 2) := by decide +kernel
theorem dX3_copyTakes_39 : decode cX3_copyTakes 39 = .ok (.invokestatic 40, 3) := by decide +kernel
theorem dX3_copyTakes_42 : decode cX3_copyTakes 42 = .ok (.return_, 1) := by decide +kernel
def f_Machine_copyTakes (o : Nat) (x1 : Int32) (x2 : Int32) (x3 : Int32) (x4 : Int32) (I : MI) (J : MJ) (Q : MI → MJ → Prop) : Prop :=
  (¬ ((x1 * 4) + x2) < 0 ∧ ¬ (x3 * 4) < 0 ∧ ¬ x4 < 0 ∧ ((x1 * 4) + x2).toNatClampNeg + x4.toNatClampNeg ≤ 56 ∧ (x3 * 4).toNatClampNeg + x4.toNatClampNeg ≤ 56) ∧ ∀ I18 : MI, I18 = sI I (o + 2) (va_cpy (I (o + 2)) (I (o + 2)) ((x1 * 4) + x2).toNatClampNeg (x3 * 4).toNatClampNeg x4.toNatClampNeg) → (¬ ((x1 * 4) + x2) < 0 ∧ ¬ (x3 * 4) < 0 ∧ ¬ x4 < 0 ∧ ((x1 * 4) + x2).toNatClampNeg + x4.toNatClampNeg ≤ 56 ∧ (x3 * 4).toNatClampNeg + x4.toNatClampNeg ≤ 56) ∧ ∀ I39 : MI, I39 = sI I18 (o + 3) (va_cpy (I18 (o + 3)) (I18 (o + 3)) ((x1 * 4) + x2).toNatClampNeg (x3 * 4).toNatClampNeg x4.toNatClampNeg) → Q I39 J
set_option maxRecDepth 100000 in
set_option maxHeartbeats 4000000 in
theorem w_Machine_copyTakes_b0 {Γ : Ctx} {Q : MI → MJ → Prop} {o : Nat} {x1 : Int32} {x2 : Int32} {x3 : Int32} {x4 : Int32}  (X : Cx Γ cX3_copyTakes 5 RX3 1) (Y : Rt Γ (Pv Q) (Option.none : Option Jvm.ClassFile.FieldType)) (ho : okM o)  {I : MI} {J : MJ} (h : f_Machine_copyTakes o x1 x2 x3 x4 I J Q) : Wp Γ 5 0 [(0, .ref (ad Γ o)), (1, .int x1), (2, .int x2), (3, .int x3), (4, .int x4)] [] I J := by
  unfold f_Machine_copyTakes at h
  refine wp_aload_n X dX3_copyTakes_0 0 rfl ?_
  refine gf_X3_15 (o' := o + 2) X ho.1 rfl dX3_copyTakes_1 ?_
  refine wp_iload_n X dX3_copyTakes_4 1 rfl ?_
  refine wp_iconst X dX3_copyTakes_5 ic_4 ?_
  refine wp_imul X dX3_copyTakes_6 ?_
  refine wp_iload_n X dX3_copyTakes_7 2 rfl ?_
  refine wp_iadd X dX3_copyTakes_8 ?_
  refine wp_aload_n X dX3_copyTakes_9 0 rfl ?_
  refine gf_X3_15 (o' := o + 2) X ho.1 rfl dX3_copyTakes_10 ?_
  refine wp_iload_n X dX3_copyTakes_13 3 rfl ?_
  refine wp_iconst X dX3_copyTakes_14 ic_4 ?_
  refine wp_imul X dX3_copyTakes_15 ?_
  refine wp_iload X dX3_copyTakes_16 4 rfl ?_
  obtain ⟨hcp, h⟩ := h
  refine wp_copy X dX3_copyTakes_18 ml_X3_40 mw_copy (by decide) ho.2.2.1 ho.2.2.1 hcp ?_
  refine wp_memI (fun I18 eI18 => ?_)
  have h := h I18 eI18
  refine wp_aload_n X dX3_copyTakes_21 0 rfl ?_
  refine gf_X3_18 (o' := o + 3) X ho.1 rfl dX3_copyTakes_22 ?_
  refine wp_iload_n X dX3_copyTakes_25 1 rfl ?_
  refine wp_iconst X dX3_copyTakes_26 ic_4 ?_
  refine wp_imul X dX3_copyTakes_27 ?_
  refine wp_iload_n X dX3_copyTakes_28 2 rfl ?_
  refine wp_iadd X dX3_copyTakes_29 ?_
  refine wp_aload_n X dX3_copyTakes_30 0 rfl ?_
  refine gf_X3_18 (o' := o + 3) X ho.1 rfl dX3_copyTakes_31 ?_
  refine wp_iload_n X dX3_copyTakes_34 3 rfl ?_
  refine wp_iconst X dX3_copyTakes_35 ic_4 ?_
  refine wp_imul X dX3_copyTakes_36 ?_
  refine wp_iload X dX3_copyTakes_37 4 rfl ?_
  obtain ⟨hcp, h⟩ := h
  refine wp_copy X dX3_copyTakes_39 ml_X3_40 mw_copy (by decide) ho.2.2.2.1 ho.2.2.2.1 hcp ?_
  refine wp_memI (fun I39 eI39 => ?_)
  have h := h I39 eI39
  exact wp_vret X Y dX3_copyTakes_42 ⟨rfl, h⟩

theorem c_Machine_copyTakes {l : Launch} {g : GE} (hg : Inj g) {I : MI} {J : MJ} {Q : MI → MJ → Prop} {o : Nat} {x1 : Int32} {x2 : Int32} {x3 : Int32} {x4 : Int32} (ho : okM o) (h : f_Machine_copyTakes o x1 x2 x3 x4 I J Q) : Cm l g yX3_copyTakes cX3_copyTakes 5 (Option.none : Option Jvm.ClassFile.FieldType) 1 [.ref (g.1 o), .int x1, .int x2, .int x3, .int x4] I J (Pv Q) := by
  refine Cm.of (As := fun ad => [.ref (ad o), .int x1, .int x2, .int x3, .int x4]) hg pn_X3 (Nat.le_of_ble_eq_true rfl) ?_
  exact (fun Γ _ _ X Y => w_Machine_copyTakes_b0 X Y ho h)
theorem cv_Machine_copyTakes {Γ : Ctx} {cc : ByteArray} {nL d pc index : Nat} {own : String} {L : List (Nat × Value)} {rest : List Value} {I : MI} {J : MJ} {Q : MI → MJ → Prop} {o : Nat} {x1 : Int32} {x2 : Int32} {x3 : Int32} {x4 : Int32} (X : Cx Γ cc nL own d) (hd : decode cc pc = .ok (.invokevirtual index, 3)) (hlink : Cond.methodLink own index yX3_copyTakes ∈ TT) (ho : okM o) (h : f_Machine_copyTakes o x1 x2 x3 x4 I J Q) (hrest : (rest.map fun v => v.category).sum ≤ 8) (hdd : 1 + 1 ≤ d) (kk : ∀ (I' : MI) (J' : MJ), Q I' J' → Wp Γ nL (pc + 3) L rest I' J') : Wp Γ nL pc L (.int x4 :: .int x3 :: .int x2 :: .int x1 :: .ref (ad Γ o) :: rest) I J :=
  wp_callV (As := [.int x1, .int x2, .int x3, .int x4]) (rest := rest) (T := TX3) (N := 7) X hd hlink mv_X3_copyTakes ho.1 (by decide) rfl (c_Machine_copyTakes X.inj ho h) rfl rfl hrest hdd (fun v I' J' hv => by obtain ⟨rfl, hq⟩ := hv; exact kk I' J' hq)
theorem dX10_copy_0 : decode cX10_copy 0 = .ok (.aload_n 0, 1) := by decide +kernel
theorem dX10_copy_1 : decode cX10_copy 1 = .ok (.iload_n 1, 1) := by decide +kernel
theorem dX10_copy_2 : decode cX10_copy 2 = .ok (.invokevirtual 100, 3) := by decide +kernel
theorem dX10_copy_5 : decode cX10_copy 5 = .ok (.istore 6, 2) := by decide +kernel
theorem dX10_copy_7 : decode cX10_copy 7 = .ok (.iload 6, 2) := by decide +kernel
theorem dX10_copy_9 : decode cX10_copy 9 = .ok (.ifCond .ne 23, 3) := by decide +kernel
theorem dX10_copy_12 : decode cX10_copy 12 = .ok (.aload_n 0, 1) := by decide +kernel
theorem dX10_copy_13 : decode cX10_copy 13 = .ok (.getfield 11, 3) := by decide +kernel
theorem dX10_copy_16 : decode cX10_copy 16 = .ok (.iload_n 1, 1) := by decide +kernel
theorem dX10_copy_17 : decode cX10_copy 17 = .ok (.aaload, 1) := by decide +kernel
theorem dX10_copy_18 : decode cX10_copy 18 = .ok (.getfield 76, 3) := by decide +kernel
theorem dX10_copy_21 : decode cX10_copy 21 = .ok (.iload_n 2, 1) := by decide +kernel
theorem dX10_copy_22 : decode cX10_copy 22 = .ok (.iload_n 3, 1) := by decide +kernel
theorem dX10_copy_23 : decode cX10_copy 23 = .ok (.iload 4, 2) := by decide +kernel
theorem dX10_copy_25 : decode cX10_copy 25 = .ok (.iload 5, 2) := by decide +kernel
theorem dX10_copy_27 : decode cX10_copy 27 = .ok (.invokestatic 135, 3) := by decide +kernel
theorem dX10_copy_30 : decode cX10_copy 30 = .ok (.istore 6, 2) := by decide +kernel
theorem dX10_copy_32 : decode cX10_copy 32 = .ok (.iload 6, 2) := by decide +kernel
theorem dX10_copy_34 : decode cX10_copy 34 = .ok (.ifCond .eq 10, 3) := by decide +kernel
theorem dX10_copy_37 : decode cX10_copy 37 = .ok (.aload_n 0, 1) := by decide +kernel
theorem dX10_copy_38 : decode cX10_copy 38 = .ok (.iload 6, 2) := by decide +kernel
theorem dX10_copy_40 : decode cX10_copy 40 = .ok (.invokevirtual 73, 3) := by decide +kernel
theorem dX10_copy_43 : decode cX10_copy 43 = .ok (.ireturn, 1) := by decide +kernel
theorem dX10_copy_44 : decode cX10_copy 44 = .ok (.aload_n 0, 1) := by decide +kernel
theorem dX10_copy_45 : decode cX10_copy 45 = .ok (.getfield 11, 3) := by decide +kernel
theorem dX10_copy_48 : decode cX10_copy 48 = .ok (.iload_n 1, 1) := by decide +kernel
theorem dX10_copy_49 : decode cX10_copy 49 = .ok (.aaload, 1) := by decide +kernel
theorem dX10_copy_50 : decode cX10_copy 50 = .ok (.getfield 76, 3) := by decide +kernel
theorem dX10_copy_53 : decode cX10_copy 53 = .ok (.iload_n 2, 1) := by decide +kernel
theorem dX10_copy_54 : decode cX10_copy 54 = .ok (.iload_n 3, 1) := by decide +kernel
theorem dX10_copy_55 : decode cX10_copy 55 = .ok (.iload 4, 2) := by decide +kernel
theorem dX10_copy_57 : decode cX10_copy 57 = .ok (.iload 5, 2) := by decide +kernel
theorem dX10_copy_59 : decode cX10_copy 59 = .ok (.invokevirtual 139, 3) := by decide +kernel
theorem dX10_copy_62 : decode cX10_copy 62 = .ok (.aload_n 0, 1) := by decide +kernel
theorem dX10_copy_63 : decode cX10_copy 63 = .ok (.iconst 0, 1) := by decide +kernel
theorem dX10_copy_64 : decode cX10_copy 64 = .ok (.invokevirtual 86, 3) := by decide +kernel
theorem dX10_copy_67 : decode cX10_copy 67 = .ok (.ireturn, 1) := by decide +kernel
def f_School_copy_b32 (x1 : Int32) (x2 : Int32) (x3 : Int32) (x4 : Int32) (x5 : Int32) (x6 : Int32) (Q : Int32 → MI → MJ → Prop) (I : MI) (J : MJ) : Prop :=
  (if x6 = 0 then vp_in x1 16 ∧ f_Machine_copyTakes (1 + 64 + 7 * x1.toNatClampNeg + 1) x2 x3 x4 x5 I J (fun I59 J59 => f_School_done (0 : Int32) I59 J59 (fun r64 I64 J64 => Q r64 I64 J64)) else f_School_refuse x6 I J (fun r40 I40 J40 => Q r40 I40 J40))
def f_School_copy (x1 : Int32) (x2 : Int32) (x3 : Int32) (x4 : Int32) (x5 : Int32) (I : MI) (J : MJ) (Q : Int32 → MI → MJ → Prop) : Prop :=
  f_School_machineFault x1 I J (fun r2 I2 J2 => (if r2 = 0 then vp_in x1 16 ∧ f_School_copyFault (1 + 64 + 7 * x1.toNatClampNeg + 1) x2 x3 x4 x5 I2 J2 (fun r27 I27 J27 => f_School_copy_b32 x1 x2 x3 x4 x5 r27 Q I27 J27) else f_School_copy_b32 x1 x2 x3 x4 x5 r2 Q I2 J2))
set_option maxRecDepth 100000 in
set_option maxHeartbeats 4000000 in
theorem w_School_copy_b32 {Γ : Ctx} {Q : Int32 → MI → MJ → Prop} {x1 : Int32} {x2 : Int32} {x3 : Int32} {x4 : Int32} {x5 : Int32} {x6 : Int32}  (X : Cx Γ cX10_copy 7 RX10 3) (Y : Rt Γ (Pi Q) (Option.some Jvm.ClassFile.FieldType.int))   {I : MI} {J : MJ} (h : f_School_copy_b32 x1 x2 x3 x4 x5 x6 Q I J) : Wp Γ 7 32 [(0, .ref (ad Γ 0)), (1, .int x1), (2, .int x2), (3, .int x3), (4, .int x4), (5, .int x5), (6, .int x6)] [] I J := by
  unfold f_School_copy_b32 at h
  refine wp_iload X dX10_copy_32 6 rfl ?_
  refine wp_if_eq (tgt := 44) X dX10_copy_34 (by decide) (fun hc => ?_) (fun hc => ?_)
  · have h := ite_t h hc
    refine wp_aload_n X dX10_copy_44 0 rfl ?_
    refine gf_X10_11 (o' := 1) X sh_0 rfl dX10_copy_45 ?_
    refine wp_iload_n X dX10_copy_48 1 rfl ?_
    obtain ⟨hb49, h⟩ := h
    refine wp_aald X sh_1 hb49 dX10_copy_49 ?_
    refine gf_X10_76 (o' := 1 + 64 + 7 * x1.toNatClampNeg + 1) X ((okP_at hb49).1) rfl dX10_copy_50 ?_
    refine wp_iload_n X dX10_copy_53 2 rfl ?_
    refine wp_iload_n X dX10_copy_54 3 rfl ?_
    refine wp_iload X dX10_copy_55 4 rfl ?_
    refine wp_iload X dX10_copy_57 5 rfl ?_
    refine cv_Machine_copyTakes X dX10_copy_59 ml_X10_139 ((okP_at hb49).2.1) h (Nat.le_of_ble_eq_true rfl) (by decide) (fun I59 J59 h => ?_)
    refine wp_aload_n X dX10_copy_62 0 rfl ?_
    refine wp_iconst X dX10_copy_63 ic_0 ?_
    refine cv_School_done X dX10_copy_64 ml_X10_86  h (Nat.le_of_ble_eq_true rfl) (by decide) (fun r64 I64 J64 h => ?_)
    exact wp_iret X Y dX10_copy_67 ⟨_, rfl, h⟩
  · have h := ite_f h hc
    refine wp_aload_n X dX10_copy_37 0 rfl ?_
    refine wp_iload X dX10_copy_38 6 rfl ?_
    refine cv_School_refuse X dX10_copy_40 ml_X10_73  h (Nat.le_of_ble_eq_true rfl) (by decide) (fun r40 I40 J40 h => ?_)
    exact wp_iret X Y dX10_copy_43 ⟨_, rfl, h⟩

set_option maxRecDepth 100000 in
set_option maxHeartbeats 4000000 in
theorem w_School_copy_b0 {Γ : Ctx} {Q : Int32 → MI → MJ → Prop} {x1 : Int32} {x2 : Int32} {x3 : Int32} {x4 : Int32} {x5 : Int32}  (X : Cx Γ cX10_copy 7 RX10 3) (Y : Rt Γ (Pi Q) (Option.some Jvm.ClassFile.FieldType.int))   {I : MI} {J : MJ} (h : f_School_copy x1 x2 x3 x4 x5 I J Q) : Wp Γ 7 0 [(0, .ref (ad Γ 0)), (1, .int x1), (2, .int x2), (3, .int x3), (4, .int x4), (5, .int x5)] [] I J := by
  unfold f_School_copy at h
  refine wp_aload_n X dX10_copy_0 0 rfl ?_
  refine wp_iload_n X dX10_copy_1 1 rfl ?_
  refine cv_School_machineFault X dX10_copy_2 ml_X10_100  h (Nat.le_of_ble_eq_true rfl) (by decide) (fun r2 I2 J2 h => ?_)
  refine wp_istore (L' := [(6, .int r2), (0, .ref (ad Γ 0)), (1, .int x1), (2, .int x2), (3, .int x3), (4, .int x4), (5, .int x5)]) X dX10_copy_5 (by decide) rfl ?_
  refine wp_iload X dX10_copy_7 0 rfl ?_
  refine wp_if_ne (tgt := 32) X dX10_copy_9 (by decide) (fun hc => ?_) (fun hc => ?_)
  · have h := ite_f h hc
    refine wp_sub X [1, 2, 3, 4, 5, 6, 0] rfl ?_
    exact w_School_copy_b32 X Y  h
  · have h := ite_t h hc
    refine wp_aload_n X dX10_copy_12 1 rfl ?_
    refine gf_X10_11 (o' := 1) X sh_0 rfl dX10_copy_13 ?_
    refine wp_iload_n X dX10_copy_16 2 rfl ?_
    obtain ⟨hb17, h⟩ := h
    refine wp_aald X sh_1 hb17 dX10_copy_17 ?_
    refine gf_X10_76 (o' := 1 + 64 + 7 * x1.toNatClampNeg + 1) X ((okP_at hb17).1) rfl dX10_copy_18 ?_
    refine wp_iload_n X dX10_copy_21 3 rfl ?_
    refine wp_iload_n X dX10_copy_22 4 rfl ?_
    refine wp_iload X dX10_copy_23 5 rfl ?_
    refine wp_iload X dX10_copy_25 6 rfl ?_
    refine cs_School_copyFault X dX10_copy_27 ml_X10_135 ((okP_at hb17).2.1) h (Nat.le_of_ble_eq_true rfl) (by decide) (fun r27 I27 J27 h => ?_)
    refine wp_istore (L' := [(6, .int r27), (0, .ref (ad Γ 0)), (1, .int x1), (2, .int x2), (3, .int x3), (4, .int x4), (5, .int x5)]) X dX10_copy_30 (by decide) rfl ?_
    refine wp_sub X [1, 2, 3, 4, 5, 6, 0] rfl ?_
    exact w_School_copy_b32 X Y  h

theorem c_School_copy {l : Launch} {g : GE} (hg : Inj g) {I : MI} {J : MJ} {Q : Int32 → MI → MJ → Prop} {x1 : Int32} {x2 : Int32} {x3 : Int32} {x4 : Int32} {x5 : Int32}  (h : f_School_copy x1 x2 x3 x4 x5 I J Q) : Cm l g yX10_copy cX10_copy 7 (Option.some Jvm.ClassFile.FieldType.int) 3 [.ref (g.1 0), .int x1, .int x2, .int x3, .int x4, .int x5] I J (Pi Q) := by
  refine Cm.of (As := fun ad => [.ref (ad 0), .int x1, .int x2, .int x3, .int x4, .int x5]) hg pn_X10 (Nat.le_of_ble_eq_true rfl) ?_
  exact (fun Γ _ _ X Y => w_School_copy_b0 X Y  h)
theorem cv_School_copy {Γ : Ctx} {cc : ByteArray} {nL d pc index : Nat} {own : String} {L : List (Nat × Value)} {rest : List Value} {I : MI} {J : MJ} {Q : Int32 → MI → MJ → Prop} {x1 : Int32} {x2 : Int32} {x3 : Int32} {x4 : Int32} {x5 : Int32} (X : Cx Γ cc nL own d) (hd : decode cc pc = .ok (.invokevirtual index, 3)) (hlink : Cond.methodLink own index yX10_copy ∈ TT)  (h : f_School_copy x1 x2 x3 x4 x5 I J Q) (hrest : (rest.map fun v => v.category).sum ≤ 8) (hdd : 3 + 1 ≤ d) (kk : ∀ (r : Int32) (I' : MI) (J' : MJ), Q r I' J' → Wp Γ nL (pc + 3) L (.int r :: rest) I' J') : Wp Γ nL pc L (.int x5 :: .int x4 :: .int x3 :: .int x2 :: .int x1 :: .ref (ad Γ 0) :: rest) I J :=
  wp_callV (As := [.int x1, .int x2, .int x3, .int x4, .int x5]) (rest := rest) (T := TX10) (N := 9) X hd hlink mv_X10_copy sh_0 (by decide) rfl (c_School_copy X.inj  h) rfl rfl hrest hdd (fun v I' J' hv => by obtain ⟨r, rfl, hq⟩ := hv; exact kk r I' J' hq)
theorem dX3_stirred_0 : decode cX3_stirred 0 = .ok (.ldc 62, 2) := by decide +kernel
theorem dX3_stirred_2 : decode cX3_stirred 2 = .ok (.iload_n 0, 1) := by decide +kernel
theorem dX3_stirred_3 : decode cX3_stirred 3 = .ok (.imul, 1) := by decide +kernel
theorem dX3_stirred_4 : decode cX3_stirred 4 = .ok (.sipush 12345, 3) := by decide +kernel
theorem dX3_stirred_7 : decode cX3_stirred 7 = .ok (.iadd, 1) := by decide +kernel
theorem dX3_stirred_8 : decode cX3_stirred 8 = .ok (.ireturn, 1) := by decide +kernel
def f_Machine_stirred (x0 : Int32) (I : MI) (J : MJ) (Q : Int32 → MI → MJ → Prop) : Prop :=
  Q ((1103515245 * x0) + 12345) I J
set_option maxRecDepth 100000 in
set_option maxHeartbeats 4000000 in
theorem w_Machine_stirred_b0 {Γ : Ctx} {Q : Int32 → MI → MJ → Prop} {x0 : Int32}  (X : Cx Γ cX3_stirred 1 RX3 0) (Y : Rt Γ (Pi Q) (Option.some Jvm.ClassFile.FieldType.int))   {I : MI} {J : MJ} (h : f_Machine_stirred x0 I J Q) : Wp Γ 1 0 [(0, .int x0)] [] I J := by
  unfold f_Machine_stirred at h
  refine wp_ldc X kc_X3_62 dX3_stirred_0 ?_
  refine wp_iload_n X dX3_stirred_2 0 rfl ?_
  refine wp_imul X dX3_stirred_3 ?_
  refine wp_sipush X dX3_stirred_4 si_12345 ?_
  refine wp_iadd X dX3_stirred_7 ?_
  exact wp_iret X Y dX3_stirred_8 ⟨_, rfl, h⟩

theorem c_Machine_stirred {l : Launch} {g : GE} (hg : Inj g) {I : MI} {J : MJ} {Q : Int32 → MI → MJ → Prop} {x0 : Int32}  (h : f_Machine_stirred x0 I J Q) : Cm l g yX3_stirred cX3_stirred 1 (Option.some Jvm.ClassFile.FieldType.int) 0 [.int x0] I J (Pi Q) := by
  refine Cm.of (As := fun ad => [.int x0]) hg pn_X3 (Nat.le_of_ble_eq_true rfl) ?_
  exact (fun Γ _ _ X Y => w_Machine_stirred_b0 X Y  h)
theorem cs_Machine_stirred {Γ : Ctx} {cc : ByteArray} {nL d pc index : Nat} {own : String} {L : List (Nat × Value)} {rest : List Value} {I : MI} {J : MJ} {Q : Int32 → MI → MJ → Prop} {x0 : Int32} (X : Cx Γ cc nL own d) (hd : decode cc pc = .ok (.invokestatic index, 3)) (hlink : Cond.methodLink own index yX3_stirred ∈ TT)  (h : f_Machine_stirred x0 I J Q) (hrest : (rest.map fun v => v.category).sum ≤ 8) (hdd : 0 + 1 ≤ d) (kk : ∀ (r : Int32) (I' : MI) (J' : MJ), Q r I' J' → Wp Γ nL (pc + 3) L (.int r :: rest) I' J') : Wp Γ nL pc L (.int x0 :: rest) I J :=
  wp_callS (As := [.int x0]) (rest := rest) X hd hlink mv_X3_stirred (c_Machine_stirred X.inj  h) rfl rfl hrest hdd (fun v I' J' hv => by obtain ⟨r, rfl, hq⟩ := hv; exact kk r I' J' hq)
theorem dX3_below_0 : decode cX3_below 0 = .ok (.iload_n 1, 1) := by decide +kernel
theorem dX3_below_1 : decode cX3_below 1 = .ok (.iconst 1, 1) := by decide +kernel
theorem dX3_below_2 : decode cX3_below 2 = .ok (.if_icmp .ge 7, 3) := by decide +kernel
theorem dX3_below_5 : decode cX3_below 5 = .ok (.iconst 0, 1) := by decide +kernel
theorem dX3_below_6 : decode cX3_below 6 = .ok (.goto 9, 3) := by decide +kernel
theorem dX3_below_9 : decode cX3_below 9 = .ok (.iload_n 0, 1) := by decide +kernel
theorem dX3_below_10 : decode cX3_below 10 = .ok (.bipush 16, 2) := by decide +kernel
theorem dX3_below_12 : decode cX3_below 12 = .ok (.iushr, 1) := by decide +kernel
theorem dX3_below_13 : decode cX3_below 13 = .ok (.iload_n 1, 1) := by decide +kernel
theorem dX3_below_14 : decode cX3_below 14 = .ok (.irem, 1) := by decide +kernel
theorem dX3_below_15 : decode cX3_below 15 = .ok (.ireturn, 1) := by decide +kernel
def f_Machine_below (x0 : Int32) (x1 : Int32) (I : MI) (J : MJ) (Q : Int32 → MI → MJ → Prop) : Prop :=
  (if 1 ≤ x1 then ¬ x1 = 0 ∧ Q (((x0.toUInt32 >>> ((16 : Int32).toUInt32 &&& Int32.toUInt32 31)).toInt32) - ((x0.toUInt32 >>> ((16 : Int32).toUInt32 &&& Int32.toUInt32 31)).toInt32) / x1 * x1) I J else Q 0 I J)
set_option maxRecDepth 100000 in
set_option maxHeartbeats 4000000 in
theorem w_Machine_below_b0 {Γ : Ctx} {Q : Int32 → MI → MJ → Prop} {x0 : Int32} {x1 : Int32}  (X : Cx Γ cX3_below 2 RX3 0) (Y : Rt Γ (Pi Q) (Option.some Jvm.ClassFile.FieldType.int))   {I : MI} {J : MJ} (h : f_Machine_below x0 x1 I J Q) : Wp Γ 2 0 [(0, .int x0), (1, .int x1)] [] I J := by
  unfold f_Machine_below at h
  refine wp_iload_n X dX3_below_0 1 rfl ?_
  refine wp_iconst X dX3_below_1 ic_1 ?_
  refine wp_icmp_ge (tgt := 9) X dX3_below_2 (by decide) (fun hc => ?_) (fun hc => ?_)
  · have h := ite_t h hc
    refine wp_iload_n X dX3_below_9 0 rfl ?_
    refine wp_bipush X dX3_below_10 bi_16 ?_
    refine wp_iushr X dX3_below_12 ?_
    refine wp_iload_n X dX3_below_13 1 rfl ?_
    obtain ⟨hz, h⟩ := h
    refine wp_irem X dX3_below_14 hz ?_
    exact wp_iret X Y dX3_below_15 ⟨_, rfl, h⟩
  · have h := ite_f h hc
    refine wp_iconst X dX3_below_5 ic_0 ?_
    refine wp_goto (tgt := 15) X dX3_below_6 (by decide) ?_
    exact wp_iret X Y dX3_below_15 ⟨_, rfl, h⟩

theorem c_Machine_below {l : Launch} {g : GE} (hg : Inj g) {I : MI} {J : MJ} {Q : Int32 → MI → MJ → Prop} {x0 : Int32} {x1 : Int32}  (h : f_Machine_below x0 x1 I J Q) : Cm l g yX3_below cX3_below 2 (Option.some Jvm.ClassFile.FieldType.int) 0 [.int x0, .int x1] I J (Pi Q) := by
  refine Cm.of (As := fun ad => [.int x0, .int x1]) hg pn_X3 (Nat.le_of_ble_eq_true rfl) ?_
  exact (fun Γ _ _ X Y => w_Machine_below_b0 X Y  h)
theorem cs_Machine_below {Γ : Ctx} {cc : ByteArray} {nL d pc index : Nat} {own : String} {L : List (Nat × Value)} {rest : List Value} {I : MI} {J : MJ} {Q : Int32 → MI → MJ → Prop} {x0 : Int32} {x1 : Int32} (X : Cx Γ cc nL own d) (hd : decode cc pc = .ok (.invokestatic index, 3)) (hlink : Cond.methodLink own index yX3_below ∈ TT)  (h : f_Machine_below x0 x1 I J Q) (hrest : (rest.map fun v => v.category).sum ≤ 8) (hdd : 0 + 1 ≤ d) (kk : ∀ (r : Int32) (I' : MI) (J' : MJ), Q r I' J' → Wp Γ nL (pc + 3) L (.int r :: rest) I' J') : Wp Γ nL pc L (.int x1 :: .int x0 :: rest) I J :=
  wp_callS (As := [.int x0, .int x1]) (rest := rest) X hd hlink mv_X3_below (c_Machine_below X.inj  h) rfl rfl hrest hdd (fun v I' J' hv => by obtain ⟨r, rfl, hq⟩ := hv; exact kk r I' J' hq)
theorem dX3_fillByNumbers_0 : decode cX3_fillByNumbers 0 = .ok (.iload_n 1, 1) := by decide +kernel
theorem dX3_fillByNumbers_1 : decode cX3_fillByNumbers 1 = .ok (.istore_n 2, 1) := by decide +kernel
theorem dX3_fillByNumbers_2 : decode cX3_fillByNumbers 2 = .ok (.iconst 0, 1) := by decide +kernel
theorem dX3_fillByNumbers_3 : decode cX3_fillByNumbers 3 = .ok (.istore_n 3, 1) := by decide +kernel
theorem dX3_fillByNumbers_4 : decode cX3_fillByNumbers 4 = .ok (.iload_n 3, 1) := by decide +kernel
theorem dX3_fillByNumbers_5 : decode cX3_fillByNumbers 5 = .ok (.aload_n 0, 1) := by decide +kernel
theorem dX3_fillByNumbers_6 : decode cX3_fillByNumbers 6 = .ok (.getfield 28, 3) := by decide +kernel
theorem dX3_fillByNumbers_9 : decode cX3_fillByNumbers 9 = .ok (.if_icmp .ge 101, 3) := by decide +kernel
theorem dX3_fillByNumbers_12 : decode cX3_fillByNumbers 12 = .ok (.iconst 0, 1) := by decide +kernel
theorem dX3_fillByNumbers_13 : decode cX3_fillByNumbers 13 = .ok (.istore 4, 2) := by decide +kernel
theorem dX3_fillByNumbers_15 : decode cX3_fillByNumbers 15 = .ok (.iload 4, 2) := by decide +kernel
theorem dX3_fillByNumbers_17 : decode cX3_fillByNumbers 17 = .ok (.aload_n 0, 1) := by decide +kernel
theorem dX3_fillByNumbers_18 : decode cX3_fillByNumbers 18 = .ok (.getfield 9, 3) := by decide +kernel
theorem dX3_fillByNumbers_21 : decode cX3_fillByNumbers 21 = .ok (.iload_n 3, 1) := by decide +kernel
theorem dX3_fillByNumbers_22 : decode cX3_fillByNumbers 22 = .ok (.iaload, 1) := by decide +kernel
theorem dX3_fillByNumbers_23 : decode cX3_fillByNumbers 23 = .ok (.if_icmp .ge 62, 3) := by decide +kernel
theorem dX3_fillByNumbers_26 : decode cX3_fillByNumbers 26 = .ok (.iload_n 2, 1) := by decide +kernel
theorem dX3_fillByNumbers_27 : decode cX3_fillByNumbers 27 = .ok (.invokestatic 50, 3) := by decide +kernel
theorem dX3_fillByNumbers_30 : decode cX3_fillByNumbers 30 = .ok (.istore_n 2, 1) := by decide +kernel
theorem dX3_fillByNumbers_31 : decode cX3_fillByNumbers 31 = .ok (.aload_n 0, 1) := by decide +kernel
theorem dX3_fillByNumbers_32 : decode cX3_fillByNumbers 32 = .ok (.getfield 15, 3) := by decide +kernel
theorem dX3_fillByNumbers_35 : decode cX3_fillByNumbers 35 = .ok (.iload_n 3, 1) := by decide +kernel
theorem dX3_fillByNumbers_36 : decode cX3_fillByNumbers 36 = .ok (.iconst 4, 1) := by decide +kernel
theorem dX3_fillByNumbers_37 : decode cX3_fillByNumbers 37 = .ok (.imul, 1) := by decide +kernel
theorem dX3_fillByNumbers_38 : decode cX3_fillByNumbers 38 = .ok (.iload 4, 2) := by decide +kernel
theorem dX3_fillByNumbers_40 : decode cX3_fillByNumbers 40 = .ok (.iadd, 1) := by decide +kernel
theorem dX3_fillByNumbers_41 : decode cX3_fillByNumbers 41 = .ok (.iload_n 2, 1) := by decide +kernel
theorem dX3_fillByNumbers_42 : decode cX3_fillByNumbers 42 = .ok (.aload_n 0, 1) := by decide +kernel
theorem dX3_fillByNumbers_43 : decode cX3_fillByNumbers 43 = .ok (.getfield 28, 3) := by decide +kernel
theorem dX3_fillByNumbers_46 : decode cX3_fillByNumbers 46 = .ok (.invokestatic 54, 3) := by decide +kernel
theorem dX3_fillByNumbers_49 : decode cX3_fillByNumbers 49 = .ok (.iastore, 1) := by decide +kernel
theorem dX3_fillByNumbers_50 : decode cX3_fillByNumbers 50 = .ok (.aload_n 0, 1) := by decide +kernel
theorem dX3_fillByNumbers_51 : decode cX3_fillByNumbers 51 = .ok (.getfield 24, 3) := by decide +kernel
theorem dX3_fillByNumbers_54 : decode cX3_fillByNumbers 54 = .ok (.iconst 3, 1) := by decide +kernel
theorem dX3_fillByNumbers_55 : decode cX3_fillByNumbers 55 = .ok (.if_icmp .ne 24, 3) := by decide +kernel
theorem dX3_fillByNumbers_58 : decode cX3_fillByNumbers 58 = .ok (.iload_n 2, 1) := by decide +kernel
theorem dX3_fillByNumbers_59 : decode cX3_fillByNumbers 59 = .ok (.invokestatic 50, 3) := by decide +kernel
theorem dX3_fillByNumbers_62 : decode cX3_fillByNumbers 62 = .ok (.istore_n 2, 1) := by decide +kernel
theorem dX3_fillByNumbers_63 : decode cX3_fillByNumbers 63 = .ok (.aload_n 0, 1) := by decide +kernel
theorem dX3_fillByNumbers_64 : decode cX3_fillByNumbers 64 = .ok (.getfield 18, 3) := by decide +kernel
theorem dX3_fillByNumbers_67 : decode cX3_fillByNumbers 67 = .ok (.iload_n 3, 1) := by decide +kernel
theorem dX3_fillByNumbers_68 : decode cX3_fillByNumbers 68 = .ok (.iconst 4, 1) := by decide +kernel
theorem dX3_fillByNumbers_69 : decode cX3_fillByNumbers 69 = .ok (.imul, 1) := by decide +kernel
theorem dX3_fillByNumbers_70 : decode cX3_fillByNumbers 70 = .ok (.iload 4, 2) := by decide +kernel
theorem dX3_fillByNumbers_72 : decode cX3_fillByNumbers 72 = .ok (.iadd, 1) := by decide +kernel
theorem dX3_fillByNumbers_73 : decode cX3_fillByNumbers 73 = .ok (.iload_n 2, 1) := by decide +kernel
theorem dX3_fillByNumbers_74 : decode cX3_fillByNumbers 74 = .ok (.iconst 4, 1) := by decide +kernel
theorem dX3_fillByNumbers_75 : decode cX3_fillByNumbers 75 = .ok (.invokestatic 54, 3) := by decide +kernel
theorem dX3_fillByNumbers_78 : decode cX3_fillByNumbers 78 = .ok (.iastore, 1) := by decide +kernel
theorem dX3_fillByNumbers_79 : decode cX3_fillByNumbers 79 = .ok (.iinc 4 1, 3) := by decide +kernel
theorem dX3_fillByNumbers_82 : decode cX3_fillByNumbers 82 = .ok (.goto (-67), 3) := by decide +kernel
theorem dX3_fillByNumbers_85 : decode cX3_fillByNumbers 85 = .ok (.iload_n 2, 1) := by decide +kernel
theorem dX3_fillByNumbers_86 : decode cX3_fillByNumbers 86 = .ok (.invokestatic 50, 3) := by decide +kernel
theorem dX3_fillByNumbers_89 : decode cX3_fillByNumbers 89 = .ok (.istore_n 2, 1) := by decide +kernel
theorem dX3_fillByNumbers_90 : decode cX3_fillByNumbers 90 = .ok (.aload_n 0, 1) := by decide +kernel
theorem dX3_fillByNumbers_91 : decode cX3_fillByNumbers 91 = .ok (.getfield 21, 3) := by decide +kernel
theorem dX3_fillByNumbers_94 : decode cX3_fillByNumbers 94 = .ok (.iload_n 3, 1) := by decide +kernel
theorem dX3_fillByNumbers_95 : decode cX3_fillByNumbers 95 = .ok (.iload_n 2, 1) := by decide +kernel
theorem dX3_fillByNumbers_96 : decode cX3_fillByNumbers 96 = .ok (.aload_n 0, 1) := by decide +kernel
theorem dX3_fillByNumbers_97 : decode cX3_fillByNumbers 97 = .ok (.invokevirtual 58, 3) := by decide +kernel
theorem dX3_fillByNumbers_100 : decode cX3_fillByNumbers 100 = .ok (.invokestatic 54, 3) := by decide +kernel
theorem dX3_fillByNumbers_103 : decode cX3_fillByNumbers 103 = .ok (.iastore, 1) := by decide +kernel
theorem dX3_fillByNumbers_104 : decode cX3_fillByNumbers 104 = .ok (.iinc 3 1, 3) := by decide +kernel
theorem dX3_fillByNumbers_107 : decode cX3_fillByNumbers 107 = .ok (.goto (-103), 3) := by decide +kernel
theorem dX3_fillByNumbers_110 : decode cX3_fillByNumbers 110 = .ok (.return_, 1) := by decide +kernel
def f_Machine_fillByNumbers_b79 (x2 : Int32) (x4 : Int32) (kh : Int32 → Int32 → MI → MJ → Prop) (I : MI) (J : MJ) : Prop :=
  ∀ t79 : Int32, t79 = x4 + 1 → kh x2 t79 I J
def f_Machine_fillByNumbers_L15 (x0 : Nat) (x3 : Int32) (k85 : Int32 → MI → MJ → Prop) : Nat → Int32 → Int32 → MI → MJ → Prop
  | 0, _, _, _, _ => False
  | nf15 + 1, x2, x4, I, J =>
  vp_in x3 14 ∧ (if (I (x0 + 1) x3.toNatClampNeg) ≤ x4 then k85 x2 I J else f_Machine_stirred x2 I J (fun r27 I27 J27 => f_Machine_below r27 (I27 x0 1) I27 J27 (fun r46 I46 J46 => vp_in ((x3 * 4) + x4) 56 ∧ ∀ I49 : MI, I49 = sI I46 (x0 + 2) (upd (I46 (x0 + 2)) ((x3 * 4) + x4).toNatClampNeg r46) → (if (I49 x0 0) = 3 then f_Machine_stirred r27 I49 J46 (fun r59 I59 J59 => f_Machine_below r59 (4 : Int32) I59 J59 (fun r75 I75 J75 => vp_in ((x3 * 4) + x4) 56 ∧ ∀ I78 : MI, I78 = sI I75 (x0 + 3) (upd (I75 (x0 + 3)) ((x3 * 4) + x4).toNatClampNeg r75) → f_Machine_fillByNumbers_b79 r59 x4 (f_Machine_fillByNumbers_L15 x0 x3 k85 nf15) I78 J75)) else f_Machine_fillByNumbers_b79 r27 x4 (f_Machine_fillByNumbers_L15 x0 x3 k85 nf15) I49 J46))))
def f_Machine_fillByNumbers_L4 (x0 : Nat) (k110 : MI → MJ → Prop) : Nat → Int32 → Int32 → MI → MJ → Prop
  | 0, _, _, _, _ => False
  | nf4 + 1, x2, x3, I, J =>
  (if (I x0 1) ≤ x3 then k110 I J else ∃ n, f_Machine_fillByNumbers_L15 x0 x3 (fun (z85_x2 : Int32) (I : MI) (J : MJ) => f_Machine_stirred z85_x2 I J (fun r86 I86 J86 => f_Machine_answersOfKind x0 I86 J86 (fun r97 I97 J97 => f_Machine_below r86 r97 I97 J97 (fun r100 I100 J100 => vp_in x3 14 ∧ ∀ I103 : MI, I103 = sI I100 (x0 + 4) (upd (I100 (x0 + 4)) x3.toNatClampNeg r100) → ∀ t104 : Int32, t104 = x3 + 1 → f_Machine_fillByNumbers_L4 x0 k110 nf4 r86 t104 I103 J100)))) n x2 0 I J)
def f_Machine_fillByNumbers (o : Nat) (x1 : Int32) (I : MI) (J : MJ) (Q : MI → MJ → Prop) : Prop :=
  ∃ n, f_Machine_fillByNumbers_L4 o (fun (I : MI) (J : MJ) => Q I J) n x1 0 I J
set_option maxRecDepth 100000 in
set_option maxHeartbeats 4000000 in
theorem w_Machine_fillByNumbers_b79 {Γ : Ctx} {Q : MI → MJ → Prop} {x0 : Nat} {x2 : Int32} {x3 : Int32} {x4 : Int32} {kh : Int32 → Int32 → MI → MJ → Prop} (X : Cx Γ cX3_fillByNumbers 5 RX3 1) (Y : Rt Γ (Pv Q) (Option.none : Option Jvm.ClassFile.FieldType)) (hx0 : okM x0) (hkh : ∀ (x2 : Int32) (x4 : Int32) (I : MI) (J : MJ), kh x2 x4 I J → Wp Γ 5 15 [(0, .ref (ad Γ x0)), (2, .int x2), (3, .int x3), (4, .int x4)] [] I J) {I : MI} {J : MJ} (h : f_Machine_fillByNumbers_b79 x2 x4 kh I J) : Wp Γ 5 79 [(0, .ref (ad Γ x0)), (2, .int x2), (3, .int x3), (4, .int x4)] [] I J := by
  unfold f_Machine_fillByNumbers_b79 at h
  obtain ⟨t79, et79⟩ : ∃ y : Int32, y = x4 + 1 := ⟨_, rfl⟩
  have h := h t79 et79
  refine wp_iinc (L' := [(4, .int t79), (0, .ref (ad Γ x0)), (2, .int x2), (3, .int x3)]) X dX3_fillByNumbers_79 3 rfl (ii_1 et79) (by decide) rfl ?_
  refine wp_goto (tgt := 15) X dX3_fillByNumbers_82 (by decide) ?_
  refine wp_sub X [1, 2, 3, 0] rfl ?_
  exact hkh _ _ _ _ h

set_option maxRecDepth 100000 in
set_option maxHeartbeats 4000000 in
theorem w_Machine_fillByNumbers_L15 {Γ : Ctx} {Q : MI → MJ → Prop} {x0 : Nat} {x3 : Int32} {k85 : Int32 → MI → MJ → Prop} (X : Cx Γ cX3_fillByNumbers 5 RX3 1) (Y : Rt Γ (Pv Q) (Option.none : Option Jvm.ClassFile.FieldType)) (hx0 : okM x0) (hk85 : ∀ (x2 : Int32) (I : MI) (J : MJ), k85 x2 I J → Wp Γ 5 85 [(0, .ref (ad Γ x0)), (2, .int x2), (3, .int x3)] [] I J) : ∀ (n : Nat) (x2 : Int32) (x4 : Int32) (I : MI) (J : MJ), f_Machine_fillByNumbers_L15 x0 x3 k85 n x2 x4 I J → Wp Γ 5 15 [(0, .ref (ad Γ x0)), (2, .int x2), (3, .int x3), (4, .int x4)] [] I J := by
  intro n
  induction n with
  | zero => intro x2 x4 I J h; exact absurd h (by simp [f_Machine_fillByNumbers_L15])
  | succ n ih =>
  intro x2 x4 I J h
  unfold f_Machine_fillByNumbers_L15 at h
  refine wp_iload X dX3_fillByNumbers_15 3 rfl ?_
  refine wp_aload_n X dX3_fillByNumbers_17 0 rfl ?_
  refine gf_X3_9 (o' := x0 + 1) X hx0.1 rfl dX3_fillByNumbers_18 ?_
  refine wp_iload_n X dX3_fillByNumbers_21 2 rfl ?_
  obtain ⟨hb22, h⟩ := h
  refine wp_iald X hx0.2.1 hb22 dX3_fillByNumbers_22 ?_
  refine wp_icmp_ge (tgt := 85) X dX3_fillByNumbers_23 (by decide) (fun hc => ?_) (fun hc => ?_)
  · have h := ite_t h hc
    refine wp_sub X [0, 1, 2] rfl ?_
    exact hk85 _ _ _ h
  · have h := ite_f h hc
    refine wp_iload_n X dX3_fillByNumbers_26 1 rfl ?_
    refine cs_Machine_stirred X dX3_fillByNumbers_27 ml_X3_50  h (Nat.le_of_ble_eq_true rfl) (by decide) (fun r27 I27 J27 h => ?_)
    refine wp_istore_n (L' := [(2, .int r27), (0, .ref (ad Γ x0)), (3, .int x3), (4, .int x4)]) X dX3_fillByNumbers_30 rfl (by decide) rfl ?_
    refine wp_aload_n X dX3_fillByNumbers_31 1 rfl ?_
    refine gf_X3_15 (o' := x0 + 2) X hx0.1 rfl dX3_fillByNumbers_32 ?_
    refine wp_iload_n X dX3_fillByNumbers_35 2 rfl ?_
    refine wp_iconst X dX3_fillByNumbers_36 ic_4 ?_
    refine wp_imul X dX3_fillByNumbers_37 ?_
    refine wp_iload X dX3_fillByNumbers_38 3 rfl ?_
    refine wp_iadd X dX3_fillByNumbers_40 ?_
    refine wp_iload_n X dX3_fillByNumbers_41 0 rfl ?_
    refine wp_aload_n X dX3_fillByNumbers_42 1 rfl ?_
    refine gf_X3_28 X hx0.1 dX3_fillByNumbers_43 ?_
    refine cs_Machine_below X dX3_fillByNumbers_46 ml_X3_54  h (Nat.le_of_ble_eq_true rfl) (by decide) (fun r46 I46 J46 h => ?_)
    obtain ⟨hb49, h⟩ := h
    refine wp_iast X hx0.2.2.1 hb49 dX3_fillByNumbers_49 ?_
    refine wp_memI (fun I49 eI49 => ?_)
    have h := h I49 eI49
    refine wp_aload_n X dX3_fillByNumbers_50 1 rfl ?_
    refine gf_X3_24 X hx0.1 dX3_fillByNumbers_51 ?_
    refine wp_iconst X dX3_fillByNumbers_54 ic_3 ?_
    refine wp_icmp_ne (tgt := 79) X dX3_fillByNumbers_55 (by decide) (fun hc => ?_) (fun hc => ?_)
    · have h := ite_f h hc
      refine wp_sub X [1, 0, 2, 3] rfl ?_
      exact w_Machine_fillByNumbers_b79 X Y hx0 ih h
    · have h := ite_t h hc
      refine wp_iload_n X dX3_fillByNumbers_58 0 rfl ?_
      refine cs_Machine_stirred X dX3_fillByNumbers_59 ml_X3_50  h (Nat.le_of_ble_eq_true rfl) (by decide) (fun r59 I59 J59 h => ?_)
      refine wp_istore_n (L' := [(2, .int r59), (0, .ref (ad Γ x0)), (3, .int x3), (4, .int x4)]) X dX3_fillByNumbers_62 rfl (by decide) rfl ?_
      refine wp_aload_n X dX3_fillByNumbers_63 1 rfl ?_
      refine gf_X3_18 (o' := x0 + 3) X hx0.1 rfl dX3_fillByNumbers_64 ?_
      refine wp_iload_n X dX3_fillByNumbers_67 2 rfl ?_
      refine wp_iconst X dX3_fillByNumbers_68 ic_4 ?_
      refine wp_imul X dX3_fillByNumbers_69 ?_
      refine wp_iload X dX3_fillByNumbers_70 3 rfl ?_
      refine wp_iadd X dX3_fillByNumbers_72 ?_
      refine wp_iload_n X dX3_fillByNumbers_73 0 rfl ?_
      refine wp_iconst X dX3_fillByNumbers_74 ic_4 ?_
      refine cs_Machine_below X dX3_fillByNumbers_75 ml_X3_54  h (Nat.le_of_ble_eq_true rfl) (by decide) (fun r75 I75 J75 h => ?_)
      obtain ⟨hb78, h⟩ := h
      refine wp_iast X hx0.2.2.2.1 hb78 dX3_fillByNumbers_78 ?_
      refine wp_memI (fun I78 eI78 => ?_)
      have h := h I78 eI78
      refine wp_sub X [1, 0, 2, 3] rfl ?_
      exact w_Machine_fillByNumbers_b79 X Y hx0 ih h

set_option maxRecDepth 100000 in
set_option maxHeartbeats 4000000 in
theorem w_Machine_fillByNumbers_L4 {Γ : Ctx} {Q : MI → MJ → Prop} {x0 : Nat} {k110 : MI → MJ → Prop} (X : Cx Γ cX3_fillByNumbers 5 RX3 1) (Y : Rt Γ (Pv Q) (Option.none : Option Jvm.ClassFile.FieldType)) (hx0 : okM x0) (hk110 : ∀ (I : MI) (J : MJ), k110 I J → Wp Γ 5 110 [] [] I J) : ∀ (n : Nat) (x2 : Int32) (x3 : Int32) (I : MI) (J : MJ), f_Machine_fillByNumbers_L4 x0 k110 n x2 x3 I J → Wp Γ 5 4 [(0, .ref (ad Γ x0)), (2, .int x2), (3, .int x3)] [] I J := by
  intro n
  induction n with
  | zero => intro x2 x3 I J h; exact absurd h (by simp [f_Machine_fillByNumbers_L4])
  | succ n ih =>
  intro x2 x3 I J h
  unfold f_Machine_fillByNumbers_L4 at h
  refine wp_iload_n X dX3_fillByNumbers_4 2 rfl ?_
  refine wp_aload_n X dX3_fillByNumbers_5 0 rfl ?_
  refine gf_X3_28 X hx0.1 dX3_fillByNumbers_6 ?_
  refine wp_icmp_ge (tgt := 110) X dX3_fillByNumbers_9 (by decide) (fun hc => ?_) (fun hc => ?_)
  · have h := ite_t h hc
    refine wp_sub X [] rfl ?_
    exact hk110 _ _ h
  · have h := ite_f h hc
    refine wp_iconst X dX3_fillByNumbers_12 ic_0 ?_
    refine wp_istore (L' := [(4, .int 0), (0, .ref (ad Γ x0)), (2, .int x2), (3, .int x3)]) X dX3_fillByNumbers_13 (by decide) rfl ?_
    obtain ⟨n, h⟩ := h
    refine wp_sub X [1, 2, 3, 0] rfl ?_
    refine w_Machine_fillByNumbers_L15 X Y hx0 ?_ n _ _ _ _ h
    · intro z85_x2 I J h
      refine wp_iload_n X dX3_fillByNumbers_85 1 rfl ?_
      refine cs_Machine_stirred X dX3_fillByNumbers_86 ml_X3_50  h (Nat.le_of_ble_eq_true rfl) (by decide) (fun r86 I86 J86 h => ?_)
      refine wp_istore_n (L' := [(2, .int r86), (0, .ref (ad Γ x0)), (3, .int x3)]) X dX3_fillByNumbers_89 rfl (by decide) rfl ?_
      refine wp_aload_n X dX3_fillByNumbers_90 1 rfl ?_
      refine gf_X3_21 (o' := x0 + 4) X hx0.1 rfl dX3_fillByNumbers_91 ?_
      refine wp_iload_n X dX3_fillByNumbers_94 2 rfl ?_
      refine wp_iload_n X dX3_fillByNumbers_95 0 rfl ?_
      refine wp_aload_n X dX3_fillByNumbers_96 1 rfl ?_
      refine cv_Machine_answersOfKind X dX3_fillByNumbers_97 ml_X3_58 hx0 h (Nat.le_of_ble_eq_true rfl) (by decide) (fun r97 I97 J97 h => ?_)
      refine cs_Machine_below X dX3_fillByNumbers_100 ml_X3_54  h (Nat.le_of_ble_eq_true rfl) (by decide) (fun r100 I100 J100 h => ?_)
      obtain ⟨hb103, h⟩ := h
      refine wp_iast X hx0.2.2.2.2 hb103 dX3_fillByNumbers_103 ?_
      refine wp_memI (fun I103 eI103 => ?_)
      have h := h I103 eI103
      obtain ⟨t104, et104⟩ : ∃ y : Int32, y = x3 + 1 := ⟨_, rfl⟩
      have h := h t104 et104
      refine wp_iinc (L' := [(3, .int t104), (2, .int r86), (0, .ref (ad Γ x0))]) X dX3_fillByNumbers_104 2 rfl (ii_1 et104) (by decide) rfl ?_
      refine wp_goto (tgt := 4) X dX3_fillByNumbers_107 (by decide) ?_
      refine wp_sub X [2, 1, 0] rfl ?_
      exact ih _ _ _ _ h

set_option maxRecDepth 100000 in
set_option maxHeartbeats 4000000 in
theorem w_Machine_fillByNumbers_b0 {Γ : Ctx} {Q : MI → MJ → Prop} {o : Nat} {x1 : Int32}  (X : Cx Γ cX3_fillByNumbers 5 RX3 1) (Y : Rt Γ (Pv Q) (Option.none : Option Jvm.ClassFile.FieldType)) (ho : okM o)  {I : MI} {J : MJ} (h : f_Machine_fillByNumbers o x1 I J Q) : Wp Γ 5 0 [(0, .ref (ad Γ o)), (1, .int x1)] [] I J := by
  unfold f_Machine_fillByNumbers at h
  refine wp_iload_n X dX3_fillByNumbers_0 1 rfl ?_
  refine wp_istore_n (L' := [(2, .int x1), (0, .ref (ad Γ o)), (1, .int x1)]) X dX3_fillByNumbers_1 rfl (by decide) rfl ?_
  refine wp_iconst X dX3_fillByNumbers_2 ic_0 ?_
  refine wp_istore_n (L' := [(3, .int 0), (2, .int x1), (0, .ref (ad Γ o)), (1, .int x1)]) X dX3_fillByNumbers_3 rfl (by decide) rfl ?_
  obtain ⟨n, h⟩ := h
  refine wp_sub X [2, 1, 0] rfl ?_
  refine w_Machine_fillByNumbers_L4 X Y ho ?_ n _ _ _ _ h
  · intro I J h
    exact wp_vret X Y dX3_fillByNumbers_110 ⟨rfl, h⟩

theorem c_Machine_fillByNumbers {l : Launch} {g : GE} (hg : Inj g) {I : MI} {J : MJ} {Q : MI → MJ → Prop} {o : Nat} {x1 : Int32} (ho : okM o) (h : f_Machine_fillByNumbers o x1 I J Q) : Cm l g yX3_fillByNumbers cX3_fillByNumbers 5 (Option.none : Option Jvm.ClassFile.FieldType) 1 [.ref (g.1 o), .int x1] I J (Pv Q) := by
  refine Cm.of (As := fun ad => [.ref (ad o), .int x1]) hg pn_X3 (Nat.le_of_ble_eq_true rfl) ?_
  exact (fun Γ _ _ X Y => w_Machine_fillByNumbers_b0 X Y ho h)
theorem cv_Machine_fillByNumbers {Γ : Ctx} {cc : ByteArray} {nL d pc index : Nat} {own : String} {L : List (Nat × Value)} {rest : List Value} {I : MI} {J : MJ} {Q : MI → MJ → Prop} {o : Nat} {x1 : Int32} (X : Cx Γ cc nL own d) (hd : decode cc pc = .ok (.invokevirtual index, 3)) (hlink : Cond.methodLink own index yX3_fillByNumbers ∈ TT) (ho : okM o) (h : f_Machine_fillByNumbers o x1 I J Q) (hrest : (rest.map fun v => v.category).sum ≤ 8) (hdd : 1 + 1 ≤ d) (kk : ∀ (I' : MI) (J' : MJ), Q I' J' → Wp Γ nL (pc + 3) L rest I' J') : Wp Γ nL pc L (.int x1 :: .ref (ad Γ o) :: rest) I J :=
  wp_callV (As := [.int x1]) (rest := rest) (T := TX3) (N := 7) X hd hlink mv_X3_fillByNumbers ho.1 (by decide) rfl (c_Machine_fillByNumbers X.inj ho h) rfl rfl hrest hdd (fun v I' J' hv => by obtain ⟨rfl, hq⟩ := hv; exact kk I' J' hq)
theorem dX10_draw_0 : decode cX10_draw 0 = .ok (.aload_n 0, 1) := by decide +kernel
theorem dX10_draw_1 : decode cX10_draw 1 = .ok (.iload_n 1, 1) := by decide +kernel
theorem dX10_draw_2 : decode cX10_draw 2 = .ok (.invokevirtual 100, 3) := by decide +kernel
theorem dX10_draw_5 : decode cX10_draw 5 = .ok (.istore_n 3, 1) := by decide +kernel
theorem dX10_draw_6 : decode cX10_draw 6 = .ok (.iload_n 3, 1) := by decide +kernel
theorem dX10_draw_7 : decode cX10_draw 7 = .ok (.ifCond .eq 9, 3) := by decide +kernel
theorem dX10_draw_10 : decode cX10_draw 10 = .ok (.aload_n 0, 1) := by decide +kernel
theorem dX10_draw_11 : decode cX10_draw 11 = .ok (.iload_n 3, 1) := by decide +kernel
theorem dX10_draw_12 : decode cX10_draw 12 = .ok (.invokevirtual 73, 3) := by decide +kernel
theorem dX10_draw_15 : decode cX10_draw 15 = .ok (.ireturn, 1) := by decide +kernel
theorem dX10_draw_16 : decode cX10_draw 16 = .ok (.aload_n 0, 1) := by decide +kernel
theorem dX10_draw_17 : decode cX10_draw 17 = .ok (.getfield 11, 3) := by decide +kernel
theorem dX10_draw_20 : decode cX10_draw 20 = .ok (.iload_n 1, 1) := by decide +kernel
theorem dX10_draw_21 : decode cX10_draw 21 = .ok (.aaload, 1) := by decide +kernel
theorem dX10_draw_22 : decode cX10_draw 22 = .ok (.getfield 76, 3) := by decide +kernel
theorem dX10_draw_25 : decode cX10_draw 25 = .ok (.iload_n 2, 1) := by decide +kernel
theorem dX10_draw_26 : decode cX10_draw 26 = .ok (.invokevirtual 143, 3) := by decide +kernel
theorem dX10_draw_29 : decode cX10_draw 29 = .ok (.aload_n 0, 1) := by decide +kernel
theorem dX10_draw_30 : decode cX10_draw 30 = .ok (.iconst 0, 1) := by decide +kernel
theorem dX10_draw_31 : decode cX10_draw 31 = .ok (.invokevirtual 86, 3) := by decide +kernel
theorem dX10_draw_34 : decode cX10_draw 34 = .ok (.ireturn, 1) := by decide +kernel
def f_School_draw (x1 : Int32) (x2 : Int32) (I : MI) (J : MJ) (Q : Int32 → MI → MJ → Prop) : Prop :=
  f_School_machineFault x1 I J (fun r2 I2 J2 => (if r2 = 0 then vp_in x1 16 ∧ f_Machine_fillByNumbers (1 + 64 + 7 * x1.toNatClampNeg + 1) x2 I2 J2 (fun I26 J26 => f_School_done (0 : Int32) I26 J26 (fun r31 I31 J31 => Q r31 I31 J31)) else f_School_refuse r2 I2 J2 (fun r12 I12 J12 => Q r12 I12 J12)))
set_option maxRecDepth 100000 in
set_option maxHeartbeats 4000000 in
theorem w_School_draw_b0 {Γ : Ctx} {Q : Int32 → MI → MJ → Prop} {x1 : Int32} {x2 : Int32}  (X : Cx Γ cX10_draw 4 RX10 3) (Y : Rt Γ (Pi Q) (Option.some Jvm.ClassFile.FieldType.int))   {I : MI} {J : MJ} (h : f_School_draw x1 x2 I J Q) : Wp Γ 4 0 [(0, .ref (ad Γ 0)), (1, .int x1), (2, .int x2)] [] I J := by
  unfold f_School_draw at h
  refine wp_aload_n X dX10_draw_0 0 rfl ?_
  refine wp_iload_n X dX10_draw_1 1 rfl ?_
  refine cv_School_machineFault X dX10_draw_2 ml_X10_100  h (Nat.le_of_ble_eq_true rfl) (by decide) (fun r2 I2 J2 h => ?_)
  refine wp_istore_n (L' := [(3, .int r2), (0, .ref (ad Γ 0)), (1, .int x1), (2, .int x2)]) X dX10_draw_5 rfl (by decide) rfl ?_
  refine wp_iload_n X dX10_draw_6 0 rfl ?_
  refine wp_if_eq (tgt := 16) X dX10_draw_7 (by decide) (fun hc => ?_) (fun hc => ?_)
  · have h := ite_t h hc
    refine wp_aload_n X dX10_draw_16 1 rfl ?_
    refine gf_X10_11 (o' := 1) X sh_0 rfl dX10_draw_17 ?_
    refine wp_iload_n X dX10_draw_20 2 rfl ?_
    obtain ⟨hb21, h⟩ := h
    refine wp_aald X sh_1 hb21 dX10_draw_21 ?_
    refine gf_X10_76 (o' := 1 + 64 + 7 * x1.toNatClampNeg + 1) X ((okP_at hb21).1) rfl dX10_draw_22 ?_
    refine wp_iload_n X dX10_draw_25 3 rfl ?_
    refine cv_Machine_fillByNumbers X dX10_draw_26 ml_X10_143 ((okP_at hb21).2.1) h (Nat.le_of_ble_eq_true rfl) (by decide) (fun I26 J26 h => ?_)
    refine wp_aload_n X dX10_draw_29 1 rfl ?_
    refine wp_iconst X dX10_draw_30 ic_0 ?_
    refine cv_School_done X dX10_draw_31 ml_X10_86  h (Nat.le_of_ble_eq_true rfl) (by decide) (fun r31 I31 J31 h => ?_)
    exact wp_iret X Y dX10_draw_34 ⟨_, rfl, h⟩
  · have h := ite_f h hc
    refine wp_aload_n X dX10_draw_10 1 rfl ?_
    refine wp_iload_n X dX10_draw_11 0 rfl ?_
    refine cv_School_refuse X dX10_draw_12 ml_X10_73  h (Nat.le_of_ble_eq_true rfl) (by decide) (fun r12 I12 J12 h => ?_)
    exact wp_iret X Y dX10_draw_15 ⟨_, rfl, h⟩

theorem c_School_draw {l : Launch} {g : GE} (hg : Inj g) {I : MI} {J : MJ} {Q : Int32 → MI → MJ → Prop} {x1 : Int32} {x2 : Int32}  (h : f_School_draw x1 x2 I J Q) : Cm l g yX10_draw cX10_draw 4 (Option.some Jvm.ClassFile.FieldType.int) 3 [.ref (g.1 0), .int x1, .int x2] I J (Pi Q) := by
  refine Cm.of (As := fun ad => [.ref (ad 0), .int x1, .int x2]) hg pn_X10 (Nat.le_of_ble_eq_true rfl) ?_
  exact (fun Γ _ _ X Y => w_School_draw_b0 X Y  h)
theorem cv_School_draw {Γ : Ctx} {cc : ByteArray} {nL d pc index : Nat} {own : String} {L : List (Nat × Value)} {rest : List Value} {I : MI} {J : MJ} {Q : Int32 → MI → MJ → Prop} {x1 : Int32} {x2 : Int32} (X : Cx Γ cc nL own d) (hd : decode cc pc = .ok (.invokevirtual index, 3)) (hlink : Cond.methodLink own index yX10_draw ∈ TT)  (h : f_School_draw x1 x2 I J Q) (hrest : (rest.map fun v => v.category).sum ≤ 8) (hdd : 3 + 1 ≤ d) (kk : ∀ (r : Int32) (I' : MI) (J' : MJ), Q r I' J' → Wp Γ nL (pc + 3) L (.int r :: rest) I' J') : Wp Γ nL pc L (.int x2 :: .int x1 :: .ref (ad Γ 0) :: rest) I J :=
  wp_callV (As := [.int x1, .int x2]) (rest := rest) (T := TX10) (N := 9) X hd hlink mv_X10_draw sh_0 (by decide) rfl (c_School_draw X.inj  h) rfl rfl hrest hdd (fun v I' J' hv => by obtain ⟨r, rfl, hq⟩ := hv; exact kk r I' J' hq)
theorem dX10_lift_0 : decode cX10_lift 0 = .ok (.aload_n 0, 1) := by decide +kernel
theorem dX10_lift_1 : decode cX10_lift 1 = .ok (.iload_n 1, 1) := by decide +kernel
theorem dX10_lift_2 : decode cX10_lift 2 = .ok (.invokevirtual 147, 3) := by decide +kernel
theorem dX10_lift_5 : decode cX10_lift 5 = .ok (.istore_n 2, 1) := by decide +kernel
theorem dX10_lift_6 : decode cX10_lift 6 = .ok (.iload_n 2, 1) := by decide +kernel
theorem dX10_lift_7 : decode cX10_lift 7 = .ok (.ifCond .eq 9, 3) := by decide +kernel
theorem dX10_lift_10 : decode cX10_lift 10 = .ok (.aload_n 0, 1) := by decide +kernel
theorem dX10_lift_11 : decode cX10_lift 11 = .ok (.iload_n 2, 1) := by decide +kernel
theorem dX10_lift_12 : decode cX10_lift 12 = .ok (.invokevirtual 73, 3) := by decide +kernel
theorem dX10_lift_15 : decode cX10_lift 15 = .ok (.ireturn, 1) := by decide +kernel
theorem dX10_lift_16 : decode cX10_lift 16 = .ok (.aload_n 0, 1) := by decide +kernel
theorem dX10_lift_17 : decode cX10_lift 17 = .ok (.getfield 11, 3) := by decide +kernel
theorem dX10_lift_20 : decode cX10_lift 20 = .ok (.iload_n 1, 1) := by decide +kernel
theorem dX10_lift_21 : decode cX10_lift 21 = .ok (.aaload, 1) := by decide +kernel
theorem dX10_lift_22 : decode cX10_lift 22 = .ok (.iconst (-1), 1) := by decide +kernel
theorem dX10_lift_23 : decode cX10_lift 23 = .ok (.putfield 83, 3) := by decide +kernel
theorem dX10_lift_26 : decode cX10_lift 26 = .ok (.aload_n 0, 1) := by decide +kernel
theorem dX10_lift_27 : decode cX10_lift 27 = .ok (.iconst 0, 1) := by decide +kernel
theorem dX10_lift_28 : decode cX10_lift 28 = .ok (.invokevirtual 86, 3) := by decide +kernel
theorem dX10_lift_31 : decode cX10_lift 31 = .ok (.ireturn, 1) := by decide +kernel
def f_School_lift (x1 : Int32) (I : MI) (J : MJ) (Q : Int32 → MI → MJ → Prop) : Prop :=
  f_School_thingFault x1 I J (fun r2 I2 J2 => (if r2 = 0 then vp_in x1 16 ∧ ∀ I23 : MI, I23 = sI I2 (1 + 64 + 7 * x1.toNatClampNeg) (upd (I2 (1 + 64 + 7 * x1.toNatClampNeg)) 0 (-1)) → f_School_done (0 : Int32) I23 J2 (fun r28 I28 J28 => Q r28 I28 J28) else f_School_refuse r2 I2 J2 (fun r12 I12 J12 => Q r12 I12 J12)))
set_option maxRecDepth 100000 in
set_option maxHeartbeats 4000000 in
theorem w_School_lift_b0 {Γ : Ctx} {Q : Int32 → MI → MJ → Prop} {x1 : Int32}  (X : Cx Γ cX10_lift 3 RX10 2) (Y : Rt Γ (Pi Q) (Option.some Jvm.ClassFile.FieldType.int))   {I : MI} {J : MJ} (h : f_School_lift x1 I J Q) : Wp Γ 3 0 [(0, .ref (ad Γ 0)), (1, .int x1)] [] I J := by
  unfold f_School_lift at h
  refine wp_aload_n X dX10_lift_0 0 rfl ?_
  refine wp_iload_n X dX10_lift_1 1 rfl ?_
  refine cv_School_thingFault X dX10_lift_2 ml_X10_147  h (Nat.le_of_ble_eq_true rfl) (by decide) (fun r2 I2 J2 h => ?_)
  refine wp_istore_n (L' := [(2, .int r2), (0, .ref (ad Γ 0)), (1, .int x1)]) X dX10_lift_5 rfl (by decide) rfl ?_
  refine wp_iload_n X dX10_lift_6 0 rfl ?_
  refine wp_if_eq (tgt := 16) X dX10_lift_7 (by decide) (fun hc => ?_) (fun hc => ?_)
  · have h := ite_t h hc
    refine wp_aload_n X dX10_lift_16 1 rfl ?_
    refine gf_X10_11 (o' := 1) X sh_0 rfl dX10_lift_17 ?_
    refine wp_iload_n X dX10_lift_20 2 rfl ?_
    obtain ⟨hb21, h⟩ := h
    refine wp_aald X sh_1 hb21 dX10_lift_21 ?_
    refine wp_iconst X dX10_lift_22 ic_m1 ?_
    refine pf_X10_83 X ((okP_at hb21).1) dX10_lift_23 (fun I23 eI23 => ?_)
    have h := h I23 eI23
    refine wp_aload_n X dX10_lift_26 1 rfl ?_
    refine wp_iconst X dX10_lift_27 ic_0 ?_
    refine cv_School_done X dX10_lift_28 ml_X10_86  h (Nat.le_of_ble_eq_true rfl) (by decide) (fun r28 I28 J28 h => ?_)
    exact wp_iret X Y dX10_lift_31 ⟨_, rfl, h⟩
  · have h := ite_f h hc
    refine wp_aload_n X dX10_lift_10 1 rfl ?_
    refine wp_iload_n X dX10_lift_11 0 rfl ?_
    refine cv_School_refuse X dX10_lift_12 ml_X10_73  h (Nat.le_of_ble_eq_true rfl) (by decide) (fun r12 I12 J12 h => ?_)
    exact wp_iret X Y dX10_lift_15 ⟨_, rfl, h⟩

theorem c_School_lift {l : Launch} {g : GE} (hg : Inj g) {I : MI} {J : MJ} {Q : Int32 → MI → MJ → Prop} {x1 : Int32}  (h : f_School_lift x1 I J Q) : Cm l g yX10_lift cX10_lift 3 (Option.some Jvm.ClassFile.FieldType.int) 2 [.ref (g.1 0), .int x1] I J (Pi Q) := by
  refine Cm.of (As := fun ad => [.ref (ad 0), .int x1]) hg pn_X10 (Nat.le_of_ble_eq_true rfl) ?_
  exact (fun Γ _ _ X Y => w_School_lift_b0 X Y  h)
theorem cv_School_lift {Γ : Ctx} {cc : ByteArray} {nL d pc index : Nat} {own : String} {L : List (Nat × Value)} {rest : List Value} {I : MI} {J : MJ} {Q : Int32 → MI → MJ → Prop} {x1 : Int32} (X : Cx Γ cc nL own d) (hd : decode cc pc = .ok (.invokevirtual index, 3)) (hlink : Cond.methodLink own index yX10_lift ∈ TT)  (h : f_School_lift x1 I J Q) (hrest : (rest.map fun v => v.category).sum ≤ 8) (hdd : 2 + 1 ≤ d) (kk : ∀ (r : Int32) (I' : MI) (J' : MJ), Q r I' J' → Wp Γ nL (pc + 3) L (.int r :: rest) I' J') : Wp Γ nL pc L (.int x1 :: .ref (ad Γ 0) :: rest) I J :=
  wp_callV (As := [.int x1]) (rest := rest) (T := TX10) (N := 9) X hd hlink mv_X10_lift sh_0 (by decide) rfl (c_School_lift X.inj  h) rfl rfl hrest hdd (fun v I' J' hv => by obtain ⟨r, rfl, hq⟩ := hv; exact kk r I' J' hq)
theorem dX10_kind_0 : decode cX10_kind 0 = .ok (.iload_n 1, 1) := by decide +kernel
theorem dX10_kind_1 : decode cX10_kind 1 = .ok (.invokestatic 150, 3) := by decide +kernel
theorem dX10_kind_4 : decode cX10_kind 4 = .ok (.ifCond .eq 15, 3) := by decide +kernel
theorem dX10_kind_7 : decode cX10_kind 7 = .ok (.aload_n 0, 1) := by decide +kernel
theorem dX10_kind_8 : decode cX10_kind 8 = .ok (.getfield 11, 3) := by decide +kernel
theorem dX10_kind_11 : decode cX10_kind 11 = .ok (.iload_n 1, 1) := by decide +kernel
theorem dX10_kind_12 : decode cX10_kind 12 = .ok (.aaload, 1) := by decide +kernel
theorem dX10_kind_13 : decode cX10_kind 13 = .ok (.getfield 83, 3) := by decide +kernel
theorem dX10_kind_16 : decode cX10_kind 16 = .ok (.goto 4, 3) := by decide +kernel
theorem dX10_kind_19 : decode cX10_kind 19 = .ok (.iconst (-1), 1) := by decide +kernel
theorem dX10_kind_20 : decode cX10_kind 20 = .ok (.ireturn, 1) := by decide +kernel
def f_School_kind (x1 : Int32) (I : MI) (J : MJ) (Q : Int32 → MI → MJ → Prop) : Prop :=
  f_School_isPlace x1 I J (fun r1 I1 J1 => (if r1 = 0 then Q (-1) I1 J1 else vp_in x1 16 ∧ Q (I1 (1 + 64 + 7 * x1.toNatClampNeg) 0) I1 J1))
set_option maxRecDepth 100000 in
set_option maxHeartbeats 4000000 in
theorem w_School_kind_b0 {Γ : Ctx} {Q : Int32 → MI → MJ → Prop} {x1 : Int32}  (X : Cx Γ cX10_kind 2 RX10 1) (Y : Rt Γ (Pi Q) (Option.some Jvm.ClassFile.FieldType.int))   {I : MI} {J : MJ} (h : f_School_kind x1 I J Q) : Wp Γ 2 0 [(0, .ref (ad Γ 0)), (1, .int x1)] [] I J := by
  unfold f_School_kind at h
  refine wp_iload_n X dX10_kind_0 1 rfl ?_
  refine cs_School_isPlace X dX10_kind_1 ml_X10_150  h (Nat.le_of_ble_eq_true rfl) (by decide) (fun r1 I1 J1 h => ?_)
  refine wp_if_eq (tgt := 19) X dX10_kind_4 (by decide) (fun hc => ?_) (fun hc => ?_)
  · have h := ite_t h hc
    refine wp_iconst X dX10_kind_19 ic_m1 ?_
    exact wp_iret X Y dX10_kind_20 ⟨_, rfl, h⟩
  · have h := ite_f h hc
    refine wp_aload_n X dX10_kind_7 0 rfl ?_
    refine gf_X10_11 (o' := 1) X sh_0 rfl dX10_kind_8 ?_
    refine wp_iload_n X dX10_kind_11 1 rfl ?_
    obtain ⟨hb12, h⟩ := h
    refine wp_aald X sh_1 hb12 dX10_kind_12 ?_
    refine gf_X10_83 X ((okP_at hb12).1) dX10_kind_13 ?_
    refine wp_goto (tgt := 20) X dX10_kind_16 (by decide) ?_
    exact wp_iret X Y dX10_kind_20 ⟨_, rfl, h⟩

theorem c_School_kind {l : Launch} {g : GE} (hg : Inj g) {I : MI} {J : MJ} {Q : Int32 → MI → MJ → Prop} {x1 : Int32}  (h : f_School_kind x1 I J Q) : Cm l g yX10_kind cX10_kind 2 (Option.some Jvm.ClassFile.FieldType.int) 1 [.ref (g.1 0), .int x1] I J (Pi Q) := by
  refine Cm.of (As := fun ad => [.ref (ad 0), .int x1]) hg pn_X10 (Nat.le_of_ble_eq_true rfl) ?_
  exact (fun Γ _ _ X Y => w_School_kind_b0 X Y  h)
theorem cv_School_kind {Γ : Ctx} {cc : ByteArray} {nL d pc index : Nat} {own : String} {L : List (Nat × Value)} {rest : List Value} {I : MI} {J : MJ} {Q : Int32 → MI → MJ → Prop} {x1 : Int32} (X : Cx Γ cc nL own d) (hd : decode cc pc = .ok (.invokevirtual index, 3)) (hlink : Cond.methodLink own index yX10_kind ∈ TT)  (h : f_School_kind x1 I J Q) (hrest : (rest.map fun v => v.category).sum ≤ 8) (hdd : 1 + 1 ≤ d) (kk : ∀ (r : Int32) (I' : MI) (J' : MJ), Q r I' J' → Wp Γ nL (pc + 3) L (.int r :: rest) I' J') : Wp Γ nL pc L (.int x1 :: .ref (ad Γ 0) :: rest) I J :=
  wp_callV (As := [.int x1]) (rest := rest) (T := TX10) (N := 9) X hd hlink mv_X10_kind sh_0 (by decide) rfl (c_School_kind X.inj  h) rfl rfl hrest hdd (fun v I' J' hv => by obtain ⟨r, rfl, hq⟩ := hv; exact kk r I' J' hq)
theorem dX10_size_0 : decode cX10_size 0 = .ok (.aload_n 0, 1) := by decide +kernel
theorem dX10_size_1 : decode cX10_size 1 = .ok (.iload_n 1, 1) := by decide +kernel
theorem dX10_size_2 : decode cX10_size 2 = .ok (.invokevirtual 147, 3) := by decide +kernel
theorem dX10_size_5 : decode cX10_size 5 = .ok (.ifCond .ne 12, 3) := by decide +kernel
theorem dX10_size_8 : decode cX10_size 8 = .ok (.iload_n 2, 1) := by decide +kernel
theorem dX10_size_9 : decode cX10_size 9 = .ok (.ifCond .lt 8, 3) := by decide +kernel
theorem dX10_size_12 : decode cX10_size 12 = .ok (.iload_n 2, 1) := by decide +kernel
theorem dX10_size_13 : decode cX10_size 13 = .ok (.iconst 1, 1) := by decide +kernel
theorem dX10_size_14 : decode cX10_size 14 = .ok (.if_icmp .le 5, 3) := by decide +kernel
theorem dX10_size_17 : decode cX10_size 17 = .ok (.iconst (-1), 1) := by decide +kernel
theorem dX10_size_18 : decode cX10_size 18 = .ok (.ireturn, 1) := by decide +kernel
theorem dX10_size_19 : decode cX10_size 19 = .ok (.aload_n 0, 1) := by decide +kernel
theorem dX10_size_20 : decode cX10_size 20 = .ok (.getfield 11, 3) := by decide +kernel
theorem dX10_size_23 : decode cX10_size 23 = .ok (.iload_n 1, 1) := by decide +kernel
theorem dX10_size_24 : decode cX10_size 24 = .ok (.aaload, 1) := by decide +kernel
theorem dX10_size_25 : decode cX10_size 25 = .ok (.astore_n 3, 1) := by decide +kernel
theorem dX10_size_26 : decode cX10_size 26 = .ok (.aload_n 3, 1) := by decide +kernel
theorem dX10_size_27 : decode cX10_size 27 = .ok (.invokevirtual 153, 3) := by decide +kernel
theorem dX10_size_30 : decode cX10_size 30 = .ok (.ifCond .eq 25, 3) := by decide +kernel
theorem dX10_size_33 : decode cX10_size 33 = .ok (.iload_n 2, 1) := by decide +kernel
theorem dX10_size_34 : decode cX10_size 34 = .ok (.ifCond .ne 13, 3) := by decide +kernel
theorem dX10_size_37 : decode cX10_size 37 = .ok (.aload_n 3, 1) := by decide +kernel
theorem dX10_size_38 : decode cX10_size 38 = .ok (.getfield 76, 3) := by decide +kernel
theorem dX10_size_41 : decode cX10_size 41 = .ok (.getfield 107, 3) := by decide +kernel
theorem dX10_size_44 : decode cX10_size 44 = .ok (.goto 10, 3) := by decide +kernel
theorem dX10_size_47 : decode cX10_size 47 = .ok (.aload_n 3, 1) := by decide +kernel
theorem dX10_size_48 : decode cX10_size 48 = .ok (.getfield 76, 3) := by decide +kernel
theorem dX10_size_51 : decode cX10_size 51 = .ok (.getfield 93, 3) := by decide +kernel
theorem dX10_size_54 : decode cX10_size 54 = .ok (.ireturn, 1) := by decide +kernel
theorem dX10_size_55 : decode cX10_size 55 = .ok (.iload_n 2, 1) := by decide +kernel
theorem dX10_size_56 : decode cX10_size 56 = .ok (.ifCond .ne 10, 3) := by decide +kernel
theorem dX10_size_59 : decode cX10_size 59 = .ok (.aload_n 3, 1) := by decide +kernel
theorem dX10_size_60 : decode cX10_size 60 = .ok (.getfield 156, 3) := by decide +kernel
theorem dX10_size_63 : decode cX10_size 63 = .ok (.goto 7, 3) := by decide +kernel
theorem dX10_size_66 : decode cX10_size 66 = .ok (.aload_n 3, 1) := by decide +kernel
theorem dX10_size_67 : decode cX10_size 67 = .ok (.getfield 159, 3) := by decide +kernel
theorem dX10_size_70 : decode cX10_size 70 = .ok (.ireturn, 1) := by decide +kernel
def f_School_size (x1 : Int32) (x2 : Int32) (I : MI) (J : MJ) (Q : Int32 → MI → MJ → Prop) : Prop :=
  f_School_thingFault x1 I J (fun r2 I2 J2 => (if r2 = 0 then (if x2 < 0 then Q (-1) I2 J2 else (if x2 ≤ 1 then vp_in x1 16 ∧ f_Place_hasMachine (1 + 64 + 7 * x1.toNatClampNeg) I2 J2 (fun r27 I27 J27 => (if r27 = 0 then (if x2 = 0 then Q (I27 (1 + 64 + 7 * x1.toNatClampNeg) 2) I27 J27 else Q (I27 (1 + 64 + 7 * x1.toNatClampNeg) 3) I27 J27) else (if x2 = 0 then Q (I27 (1 + 64 + 7 * x1.toNatClampNeg + 1) 1) I27 J27 else Q (I27 (1 + 64 + 7 * x1.toNatClampNeg + 1) 2) I27 J27))) else Q (-1) I2 J2)) else Q (-1) I2 J2))
set_option maxRecDepth 100000 in
set_option maxHeartbeats 4000000 in
theorem w_School_size_b0 {Γ : Ctx} {Q : Int32 → MI → MJ → Prop} {x1 : Int32} {x2 : Int32}  (X : Cx Γ cX10_size 4 RX10 2) (Y : Rt Γ (Pi Q) (Option.some Jvm.ClassFile.FieldType.int))   {I : MI} {J : MJ} (h : f_School_size x1 x2 I J Q) : Wp Γ 4 0 [(0, .ref (ad Γ 0)), (1, .int x1), (2, .int x2)] [] I J := by
  unfold f_School_size at h
  refine wp_aload_n X dX10_size_0 0 rfl ?_
  refine wp_iload_n X dX10_size_1 1 rfl ?_
  refine cv_School_thingFault X dX10_size_2 ml_X10_147  h (Nat.le_of_ble_eq_true rfl) (by decide) (fun r2 I2 J2 h => ?_)
  refine wp_if_ne (tgt := 17) X dX10_size_5 (by decide) (fun hc => ?_) (fun hc => ?_)
  · have h := ite_f h hc
    refine wp_iconst X dX10_size_17 ic_m1 ?_
    exact wp_iret X Y dX10_size_18 ⟨_, rfl, h⟩
  · have h := ite_t h hc
    refine wp_iload_n X dX10_size_8 2 rfl ?_
    refine wp_if_lt (tgt := 17) X dX10_size_9 (by decide) (fun hc => ?_) (fun hc => ?_)
    · have h := ite_t h hc
      refine wp_iconst X dX10_size_17 ic_m1 ?_
      exact wp_iret X Y dX10_size_18 ⟨_, rfl, h⟩
    · have h := ite_f h hc
      refine wp_iload_n X dX10_size_12 2 rfl ?_
      refine wp_iconst X dX10_size_13 ic_1 ?_
      refine wp_icmp_le (tgt := 19) X dX10_size_14 (by decide) (fun hc => ?_) (fun hc => ?_)
      · have h := ite_t h hc
        refine wp_aload_n X dX10_size_19 0 rfl ?_
        refine gf_X10_11 (o' := 1) X sh_0 rfl dX10_size_20 ?_
        refine wp_iload_n X dX10_size_23 1 rfl ?_
        obtain ⟨hb24, h⟩ := h
        refine wp_aald X sh_1 hb24 dX10_size_24 ?_
        refine wp_astore_n (L' := [(3, .ref (ad Γ (1 + 64 + 7 * x1.toNatClampNeg))), (0, .ref (ad Γ 0)), (1, .int x1), (2, .int x2)]) X dX10_size_25 rfl (by decide) rfl ?_
        refine wp_aload_n X dX10_size_26 0 rfl ?_
        refine cv_Place_hasMachine X dX10_size_27 ml_X10_153 (okP_at hb24) h (Nat.le_of_ble_eq_true rfl) (by decide) (fun r27 I27 J27 h => ?_)
        refine wp_if_eq (tgt := 55) X dX10_size_30 (by decide) (fun hc => ?_) (fun hc => ?_)
        · have h := ite_t h hc
          refine wp_iload_n X dX10_size_55 3 rfl ?_
          refine wp_if_ne (tgt := 66) X dX10_size_56 (by decide) (fun hc => ?_) (fun hc => ?_)
          · have h := ite_f h hc
            refine wp_aload_n X dX10_size_66 0 rfl ?_
            refine gf_X10_159 X ((okP_at hb24).1) dX10_size_67 ?_
            exact wp_iret X Y dX10_size_70 ⟨_, rfl, h⟩
          · have h := ite_t h hc
            refine wp_aload_n X dX10_size_59 0 rfl ?_
            refine gf_X10_156 X ((okP_at hb24).1) dX10_size_60 ?_
            refine wp_goto (tgt := 70) X dX10_size_63 (by decide) ?_
            exact wp_iret X Y dX10_size_70 ⟨_, rfl, h⟩
        · have h := ite_f h hc
          refine wp_iload_n X dX10_size_33 3 rfl ?_
          refine wp_if_ne (tgt := 47) X dX10_size_34 (by decide) (fun hc => ?_) (fun hc => ?_)
          · have h := ite_f h hc
            refine wp_aload_n X dX10_size_47 0 rfl ?_
            refine gf_X10_76 (o' := 1 + 64 + 7 * x1.toNatClampNeg + 1) X ((okP_at hb24).1) rfl dX10_size_48 ?_
            refine gf_X10_93 X ((okP_at hb24).2.1.1) dX10_size_51 ?_
            exact wp_iret X Y dX10_size_54 ⟨_, rfl, h⟩
          · have h := ite_t h hc
            refine wp_aload_n X dX10_size_37 0 rfl ?_
            refine gf_X10_76 (o' := 1 + 64 + 7 * x1.toNatClampNeg + 1) X ((okP_at hb24).1) rfl dX10_size_38 ?_
            refine gf_X10_107 X ((okP_at hb24).2.1.1) dX10_size_41 ?_
            refine wp_goto (tgt := 54) X dX10_size_44 (by decide) ?_
            exact wp_iret X Y dX10_size_54 ⟨_, rfl, h⟩
      · have h := ite_f h hc
        refine wp_iconst X dX10_size_17 ic_m1 ?_
        exact wp_iret X Y dX10_size_18 ⟨_, rfl, h⟩

theorem c_School_size {l : Launch} {g : GE} (hg : Inj g) {I : MI} {J : MJ} {Q : Int32 → MI → MJ → Prop} {x1 : Int32} {x2 : Int32}  (h : f_School_size x1 x2 I J Q) : Cm l g yX10_size cX10_size 4 (Option.some Jvm.ClassFile.FieldType.int) 2 [.ref (g.1 0), .int x1, .int x2] I J (Pi Q) := by
  refine Cm.of (As := fun ad => [.ref (ad 0), .int x1, .int x2]) hg pn_X10 (Nat.le_of_ble_eq_true rfl) ?_
  exact (fun Γ _ _ X Y => w_School_size_b0 X Y  h)
theorem cv_School_size {Γ : Ctx} {cc : ByteArray} {nL d pc index : Nat} {own : String} {L : List (Nat × Value)} {rest : List Value} {I : MI} {J : MJ} {Q : Int32 → MI → MJ → Prop} {x1 : Int32} {x2 : Int32} (X : Cx Γ cc nL own d) (hd : decode cc pc = .ok (.invokevirtual index, 3)) (hlink : Cond.methodLink own index yX10_size ∈ TT)  (h : f_School_size x1 x2 I J Q) (hrest : (rest.map fun v => v.category).sum ≤ 8) (hdd : 2 + 1 ≤ d) (kk : ∀ (r : Int32) (I' : MI) (J' : MJ), Q r I' J' → Wp Γ nL (pc + 3) L (.int r :: rest) I' J') : Wp Γ nL pc L (.int x2 :: .int x1 :: .ref (ad Γ 0) :: rest) I J :=
  wp_callV (As := [.int x1, .int x2]) (rest := rest) (T := TX10) (N := 9) X hd hlink mv_X10_size sh_0 (by decide) rfl (c_School_size X.inj  h) rfl rfl hrest hdd (fun v I' J' hv => by obtain ⟨r, rfl, hq⟩ := hv; exact kk r I' J' hq)
theorem dX10_machineAt_0 : decode cX10_machineAt 0 = .ok (.aload_n 0, 1) := by decide +kernel
theorem dX10_machineAt_1 : decode cX10_machineAt 1 = .ok (.iload_n 1, 1) := by decide +kernel
theorem dX10_machineAt_2 : decode cX10_machineAt 2 = .ok (.invokevirtual 100, 3) := by decide +kernel
theorem dX10_machineAt_5 : decode cX10_machineAt 5 = .ok (.ifCond .ne 15, 3) := by decide +kernel
theorem dX10_machineAt_8 : decode cX10_machineAt 8 = .ok (.aload_n 0, 1) := by decide +kernel
theorem dX10_machineAt_9 : decode cX10_machineAt 9 = .ok (.getfield 11, 3) := by decide +kernel
theorem dX10_machineAt_12 : decode cX10_machineAt 12 = .ok (.iload_n 1, 1) := by decide +kernel
theorem dX10_machineAt_13 : decode cX10_machineAt 13 = .ok (.aaload, 1) := by decide +kernel
theorem dX10_machineAt_14 : decode cX10_machineAt 14 = .ok (.getfield 76, 3) := by decide +kernel
theorem dX10_machineAt_17 : decode cX10_machineAt 17 = .ok (.goto 4, 3) := by decide +kernel
theorem dX10_machineAt_20 : decode cX10_machineAt 20 = .ok (.aconst_null, 1) := by decide +kernel
theorem dX10_machineAt_21 : decode cX10_machineAt 21 = .ok (.areturn, 1) := by decide +kernel
def f_School_machineAt (x1 : Int32) (I : MI) (J : MJ) (Q : Option Nat → MI → MJ → Prop) : Prop :=
  f_School_machineFault x1 I J (fun r2 I2 J2 => (if r2 = 0 then vp_in x1 16 ∧ Q (some (1 + 64 + 7 * x1.toNatClampNeg + 1)) I2 J2 else Q none I2 J2))
set_option maxRecDepth 100000 in
set_option maxHeartbeats 4000000 in
theorem w_School_machineAt_b0 {Γ : Ctx} {Q : Option Nat → MI → MJ → Prop} {x1 : Int32}  (X : Cx Γ cX10_machineAt 2 RX10 3) (Y : Rt Γ (Pq (ad Γ) Q) (Option.some (Jvm.ClassFile.FieldType.object "WordSchool$Machine")))   {I : MI} {J : MJ} (h : f_School_machineAt x1 I J Q) : Wp Γ 2 0 [(0, .ref (ad Γ 0)), (1, .int x1)] [] I J := by
  unfold f_School_machineAt at h
  refine wp_aload_n X dX10_machineAt_0 0 rfl ?_
  refine wp_iload_n X dX10_machineAt_1 1 rfl ?_
  refine cv_School_machineFault X dX10_machineAt_2 ml_X10_100  h (Nat.le_of_ble_eq_true rfl) (by decide) (fun r2 I2 J2 h => ?_)
  refine wp_if_ne (tgt := 20) X dX10_machineAt_5 (by decide) (fun hc => ?_) (fun hc => ?_)
  · have h := ite_f h hc
    refine wp_null X dX10_machineAt_20 ?_
    exact wp_aret (q := none) X Y dX10_machineAt_21 ⟨_, rfl, h⟩
  · have h := ite_t h hc
    refine wp_aload_n X dX10_machineAt_8 0 rfl ?_
    refine gf_X10_11 (o' := 1) X sh_0 rfl dX10_machineAt_9 ?_
    refine wp_iload_n X dX10_machineAt_12 1 rfl ?_
    obtain ⟨hb13, h⟩ := h
    refine wp_aald X sh_1 hb13 dX10_machineAt_13 ?_
    refine gf_X10_76 (o' := 1 + 64 + 7 * x1.toNatClampNeg + 1) X ((okP_at hb13).1) rfl dX10_machineAt_14 ?_
    refine wp_goto (tgt := 21) X dX10_machineAt_17 (by decide) ?_
    exact wp_aret (q := (some (1 + 64 + 7 * x1.toNatClampNeg + 1))) X Y dX10_machineAt_21 ⟨_, rfl, h⟩

theorem c_School_machineAt {l : Launch} {g : GE} (hg : Inj g) {I : MI} {J : MJ} {Q : Option Nat → MI → MJ → Prop} {x1 : Int32}  (h : f_School_machineAt x1 I J Q) : Cm l g yX10_machineAt cX10_machineAt 2 (Option.some (Jvm.ClassFile.FieldType.object "WordSchool$Machine")) 3 [.ref (g.1 0), .int x1] I J (Pq g.1 Q) := by
  refine Cm.of (As := fun ad => [.ref (ad 0), .int x1]) hg pn_X10 (Nat.le_of_ble_eq_true rfl) ?_
  exact (fun Γ hl hg X Y => by subst hg; exact w_School_machineAt_b0 X Y  h)
theorem cv_School_machineAt {Γ : Ctx} {cc : ByteArray} {nL d pc index : Nat} {own : String} {L : List (Nat × Value)} {rest : List Value} {I : MI} {J : MJ} {Q : Option Nat → MI → MJ → Prop} {x1 : Int32} (X : Cx Γ cc nL own d) (hd : decode cc pc = .ok (.invokevirtual index, 3)) (hlink : Cond.methodLink own index yX10_machineAt ∈ TT)  (h : f_School_machineAt x1 I J Q) (hrest : (rest.map fun v => v.category).sum ≤ 8) (hdd : 3 + 1 ≤ d) (kk : ∀ (r : Option Nat) (I' : MI) (J' : MJ), Q r I' J' → Wp Γ nL (pc + 3) L (rfN (ad Γ) r :: rest) I' J') : Wp Γ nL pc L (.int x1 :: .ref (ad Γ 0) :: rest) I J :=
  wp_callV (As := [.int x1]) (rest := rest) (T := TX10) (N := 9) X hd hlink mv_X10_machineAt sh_0 (by decide) rfl (c_School_machineAt X.inj  h) rfl rfl hrest hdd (fun v I' J' hv => by obtain ⟨r, rfl, hq⟩ := hv; exact kk r I' J' hq)
theorem dX10_leads_0 : decode cX10_leads 0 = .ok (.aload_n 0, 1) := by decide +kernel
theorem dX10_leads_1 : decode cX10_leads 1 = .ok (.iload_n 1, 1) := by decide +kernel
theorem dX10_leads_2 : decode cX10_leads 2 = .ok (.invokevirtual 162, 3) := by decide +kernel
theorem dX10_leads_5 : decode cX10_leads 5 = .ok (.astore 4, 2) := by decide +kernel
theorem dX10_leads_7 : decode cX10_leads 7 = .ok (.aload 4, 2) := by decide +kernel
theorem dX10_leads_9 : decode cX10_leads 9 = .ok (.ifnull 12, 3) := by decide +kernel
theorem dX10_leads_12 : decode cX10_leads 12 = .ok (.aload 4, 2) := by decide +kernel
theorem dX10_leads_14 : decode cX10_leads 14 = .ok (.iload_n 2, 1) := by decide +kernel
theorem dX10_leads_15 : decode cX10_leads 15 = .ok (.invokevirtual 118, 3) := by decide +kernel
theorem dX10_leads_18 : decode cX10_leads 18 = .ok (.ifCond .ne 6, 3) := by decide +kernel
theorem dX10_leads_21 : decode cX10_leads 21 = .ok (.bipush (-3), 2) := by decide +kernel
theorem dX10_leads_23 : decode cX10_leads 23 = .ok (.ireturn, 1) := by decide +kernel
theorem dX10_leads_24 : decode cX10_leads 24 = .ok (.aload 4, 2) := by decide +kernel
theorem dX10_leads_26 : decode cX10_leads 26 = .ok (.iload_n 2, 1) := by decide +kernel
theorem dX10_leads_27 : decode cX10_leads 27 = .ok (.iload_n 3, 1) := by decide +kernel
theorem dX10_leads_28 : decode cX10_leads 28 = .ok (.invokevirtual 166, 3) := by decide +kernel
theorem dX10_leads_31 : decode cX10_leads 31 = .ok (.ifCond .eq 17, 3) := by decide +kernel
theorem dX10_leads_34 : decode cX10_leads 34 = .ok (.aload 4, 2) := by decide +kernel
theorem dX10_leads_36 : decode cX10_leads 36 = .ok (.getfield 114, 3) := by decide +kernel
theorem dX10_leads_39 : decode cX10_leads 39 = .ok (.iload_n 2, 1) := by decide +kernel
theorem dX10_leads_40 : decode cX10_leads 40 = .ok (.iconst 4, 1) := by decide +kernel
theorem dX10_leads_41 : decode cX10_leads 41 = .ok (.imul, 1) := by decide +kernel
theorem dX10_leads_42 : decode cX10_leads 42 = .ok (.iload_n 3, 1) := by decide +kernel
theorem dX10_leads_43 : decode cX10_leads 43 = .ok (.iadd, 1) := by decide +kernel
theorem dX10_leads_44 : decode cX10_leads 44 = .ok (.iaload, 1) := by decide +kernel
theorem dX10_leads_45 : decode cX10_leads 45 = .ok (.goto 5, 3) := by decide +kernel
theorem dX10_leads_48 : decode cX10_leads 48 = .ok (.bipush (-2), 2) := by decide +kernel
theorem dX10_leads_50 : decode cX10_leads 50 = .ok (.ireturn, 1) := by decide +kernel
def f_School_leads (x1 : Int32) (x2 : Int32) (x3 : Int32) (I : MI) (J : MJ) (Q : Int32 → MI → MJ → Prop) : Prop :=
  f_School_machineAt x1 I J (fun r2 I2 J2 => (match r2 with | none => Q (-3) I2 J2 | some a9 => okM a9 ∧ f_Machine_hasState a9 x2 I2 J2 (fun r15 I15 J15 => (if r15 = 0 then Q (-3) I15 J15 else f_Machine_hasTake a9 x2 x3 I15 J15 (fun r28 I28 J28 => (if r28 = 0 then Q (-2) I28 J28 else vp_in ((x2 * 4) + x3) 56 ∧ Q (I28 (a9 + 2) ((x2 * 4) + x3).toNatClampNeg) I28 J28))))))
set_option maxRecDepth 100000 in
set_option maxHeartbeats 4000000 in
theorem w_School_leads_b0 {Γ : Ctx} {Q : Int32 → MI → MJ → Prop} {x1 : Int32} {x2 : Int32} {x3 : Int32}  (X : Cx Γ cX10_leads 5 RX10 4) (Y : Rt Γ (Pi Q) (Option.some Jvm.ClassFile.FieldType.int))   {I : MI} {J : MJ} (h : f_School_leads x1 x2 x3 I J Q) : Wp Γ 5 0 [(0, .ref (ad Γ 0)), (1, .int x1), (2, .int x2), (3, .int x3)] [] I J := by
  unfold f_School_leads at h
  refine wp_aload_n X dX10_leads_0 0 rfl ?_
  refine wp_iload_n X dX10_leads_1 1 rfl ?_
  refine cv_School_machineAt X dX10_leads_2 ml_X10_162  h (Nat.le_of_ble_eq_true rfl) (by decide) (fun r2 I2 J2 h => ?_)
  refine wp_astoreQ (L' := [(4, rfN (ad Γ) r2), (0, .ref (ad Γ 0)), (1, .int x1), (2, .int x2), (3, .int x3)]) X dX10_leads_5 (by decide) rfl ?_
  refine wp_aloadQ X dX10_leads_7 0 rfl ?_
  refine wp_ifnull (q := r2) (tgt := 21) X dX10_leads_9 (by decide) ?_ ?_
  · intro hq; subst hq
    refine wp_bipush X dX10_leads_21 bi_m3 ?_
    exact wp_iret X Y dX10_leads_23 ⟨_, rfl, h⟩
  · intro a9 hq; subst hq; obtain ⟨oka9, h⟩ := h
    refine wp_aload X dX10_leads_12 0 rfl ?_
    refine wp_iload_n X dX10_leads_14 3 rfl ?_
    refine cv_Machine_hasState X dX10_leads_15 ml_X10_118 oka9 h (Nat.le_of_ble_eq_true rfl) (by decide) (fun r15 I15 J15 h => ?_)
    refine wp_if_ne (tgt := 24) X dX10_leads_18 (by decide) (fun hc => ?_) (fun hc => ?_)
    · have h := ite_f h hc
      refine wp_aload X dX10_leads_24 0 rfl ?_
      refine wp_iload_n X dX10_leads_26 3 rfl ?_
      refine wp_iload_n X dX10_leads_27 4 rfl ?_
      refine cv_Machine_hasTake X dX10_leads_28 ml_X10_166 oka9 h (Nat.le_of_ble_eq_true rfl) (by decide) (fun r28 I28 J28 h => ?_)
      refine wp_if_eq (tgt := 48) X dX10_leads_31 (by decide) (fun hc => ?_) (fun hc => ?_)
      · have h := ite_t h hc
        refine wp_bipush X dX10_leads_48 bi_m2 ?_
        exact wp_iret X Y dX10_leads_50 ⟨_, rfl, h⟩
      · have h := ite_f h hc
        refine wp_aload X dX10_leads_34 0 rfl ?_
        refine gf_X10_114 (o' := a9 + 2) X oka9.1 rfl dX10_leads_36 ?_
        refine wp_iload_n X dX10_leads_39 3 rfl ?_
        refine wp_iconst X dX10_leads_40 ic_4 ?_
        refine wp_imul X dX10_leads_41 ?_
        refine wp_iload_n X dX10_leads_42 4 rfl ?_
        refine wp_iadd X dX10_leads_43 ?_
        obtain ⟨hb44, h⟩ := h
        refine wp_iald X oka9.2.2.1 hb44 dX10_leads_44 ?_
        refine wp_goto (tgt := 50) X dX10_leads_45 (by decide) ?_
        exact wp_iret X Y dX10_leads_50 ⟨_, rfl, h⟩
    · have h := ite_t h hc
      refine wp_bipush X dX10_leads_21 bi_m3 ?_
      exact wp_iret X Y dX10_leads_23 ⟨_, rfl, h⟩

theorem c_School_leads {l : Launch} {g : GE} (hg : Inj g) {I : MI} {J : MJ} {Q : Int32 → MI → MJ → Prop} {x1 : Int32} {x2 : Int32} {x3 : Int32}  (h : f_School_leads x1 x2 x3 I J Q) : Cm l g yX10_leads cX10_leads 5 (Option.some Jvm.ClassFile.FieldType.int) 4 [.ref (g.1 0), .int x1, .int x2, .int x3] I J (Pi Q) := by
  refine Cm.of (As := fun ad => [.ref (ad 0), .int x1, .int x2, .int x3]) hg pn_X10 (Nat.le_of_ble_eq_true rfl) ?_
  exact (fun Γ _ _ X Y => w_School_leads_b0 X Y  h)
theorem cv_School_leads {Γ : Ctx} {cc : ByteArray} {nL d pc index : Nat} {own : String} {L : List (Nat × Value)} {rest : List Value} {I : MI} {J : MJ} {Q : Int32 → MI → MJ → Prop} {x1 : Int32} {x2 : Int32} {x3 : Int32} (X : Cx Γ cc nL own d) (hd : decode cc pc = .ok (.invokevirtual index, 3)) (hlink : Cond.methodLink own index yX10_leads ∈ TT)  (h : f_School_leads x1 x2 x3 I J Q) (hrest : (rest.map fun v => v.category).sum ≤ 8) (hdd : 4 + 1 ≤ d) (kk : ∀ (r : Int32) (I' : MI) (J' : MJ), Q r I' J' → Wp Γ nL (pc + 3) L (.int r :: rest) I' J') : Wp Γ nL pc L (.int x3 :: .int x2 :: .int x1 :: .ref (ad Γ 0) :: rest) I J :=
  wp_callV (As := [.int x1, .int x2, .int x3]) (rest := rest) (T := TX10) (N := 9) X hd hlink mv_X10_leads sh_0 (by decide) rfl (c_School_leads X.inj  h) rfl rfl hrest hdd (fun v I' J' hv => by obtain ⟨r, rfl, hq⟩ := hv; exact kk r I' J' hq)
theorem dX10_what_0 : decode cX10_what 0 = .ok (.aload_n 0, 1) := by decide +kernel
theorem dX10_what_1 : decode cX10_what 1 = .ok (.iload_n 1, 1) := by decide +kernel
theorem dX10_what_2 : decode cX10_what 2 = .ok (.invokevirtual 162, 3) := by decide +kernel
theorem dX10_what_5 : decode cX10_what 5 = .ok (.astore 4, 2) := by decide +kernel
theorem dX10_what_7 : decode cX10_what 7 = .ok (.aload 4, 2) := by decide +kernel
theorem dX10_what_9 : decode cX10_what 9 = .ok (.ifnull 22, 3) := by decide +kernel
theorem dX10_what_12 : decode cX10_what 12 = .ok (.aload 4, 2) := by decide +kernel
theorem dX10_what_14 : decode cX10_what 14 = .ok (.getfield 129, 3) := by decide +kernel
theorem dX10_what_17 : decode cX10_what 17 = .ok (.iconst 3, 1) := by decide +kernel
theorem dX10_what_18 : decode cX10_what 18 = .ok (.if_icmp .ne 13, 3) := by decide +kernel
theorem dX10_what_21 : decode cX10_what 21 = .ok (.aload 4, 2) := by decide +kernel
theorem dX10_what_23 : decode cX10_what 23 = .ok (.iload_n 2, 1) := by decide +kernel
theorem dX10_what_24 : decode cX10_what 24 = .ok (.iload_n 3, 1) := by decide +kernel
theorem dX10_what_25 : decode cX10_what 25 = .ok (.invokevirtual 166, 3) := by decide +kernel
theorem dX10_what_28 : decode cX10_what 28 = .ok (.ifCond .ne 5, 3) := by decide +kernel
theorem dX10_what_31 : decode cX10_what 31 = .ok (.iconst (-1), 1) := by decide +kernel
theorem dX10_what_32 : decode cX10_what 32 = .ok (.ireturn, 1) := by decide +kernel
theorem dX10_what_33 : decode cX10_what 33 = .ok (.aload 4, 2) := by decide +kernel
theorem dX10_what_35 : decode cX10_what 35 = .ok (.getfield 132, 3) := by decide +kernel
theorem dX10_what_38 : decode cX10_what 38 = .ok (.iload_n 2, 1) := by decide +kernel
theorem dX10_what_39 : decode cX10_what 39 = .ok (.iconst 4, 1) := by decide +kernel
theorem dX10_what_40 : decode cX10_what 40 = .ok (.imul, 1) := by decide +kernel
theorem dX10_what_41 : decode cX10_what 41 = .ok (.iload_n 3, 1) := by decide +kernel
theorem dX10_what_42 : decode cX10_what 42 = .ok (.iadd, 1) := by decide +kernel
theorem dX10_what_43 : decode cX10_what 43 = .ok (.iaload, 1) := by decide +kernel
theorem dX10_what_44 : decode cX10_what 44 = .ok (.ireturn, 1) := by decide +kernel
def f_School_what (x1 : Int32) (x2 : Int32) (x3 : Int32) (I : MI) (J : MJ) (Q : Int32 → MI → MJ → Prop) : Prop :=
  f_School_machineAt x1 I J (fun r2 I2 J2 => (match r2 with | none => Q (-1) I2 J2 | some a9 => okM a9 ∧ (if (I2 a9 0) = 3 then f_Machine_hasTake a9 x2 x3 I2 J2 (fun r25 I25 J25 => (if r25 = 0 then Q (-1) I25 J25 else vp_in ((x2 * 4) + x3) 56 ∧ Q (I25 (a9 + 3) ((x2 * 4) + x3).toNatClampNeg) I25 J25)) else Q (-1) I2 J2)))
set_option maxRecDepth 100000 in
set_option maxHeartbeats 4000000 in
theorem w_School_what_b0 {Γ : Ctx} {Q : Int32 → MI → MJ → Prop} {x1 : Int32} {x2 : Int32} {x3 : Int32}  (X : Cx Γ cX10_what 5 RX10 4) (Y : Rt Γ (Pi Q) (Option.some Jvm.ClassFile.FieldType.int))   {I : MI} {J : MJ} (h : f_School_what x1 x2 x3 I J Q) : Wp Γ 5 0 [(0, .ref (ad Γ 0)), (1, .int x1), (2, .int x2), (3, .int x3)] [] I J := by
  unfold f_School_what at h
  refine wp_aload_n X dX10_what_0 0 rfl ?_
  refine wp_iload_n X dX10_what_1 1 rfl ?_
  refine cv_School_machineAt X dX10_what_2 ml_X10_162  h (Nat.le_of_ble_eq_true rfl) (by decide) (fun r2 I2 J2 h => ?_)
  refine wp_astoreQ (L' := [(4, rfN (ad Γ) r2), (0, .ref (ad Γ 0)), (1, .int x1), (2, .int x2), (3, .int x3)]) X dX10_what_5 (by decide) rfl ?_
  refine wp_aloadQ X dX10_what_7 0 rfl ?_
  refine wp_ifnull (q := r2) (tgt := 31) X dX10_what_9 (by decide) ?_ ?_
  · intro hq; subst hq
    refine wp_iconst X dX10_what_31 ic_m1 ?_
    exact wp_iret X Y dX10_what_32 ⟨_, rfl, h⟩
  · intro a9 hq; subst hq; obtain ⟨oka9, h⟩ := h
    refine wp_aload X dX10_what_12 0 rfl ?_
    refine gf_X10_129 X oka9.1 dX10_what_14 ?_
    refine wp_iconst X dX10_what_17 ic_3 ?_
    refine wp_icmp_ne (tgt := 31) X dX10_what_18 (by decide) (fun hc => ?_) (fun hc => ?_)
    · have h := ite_f h hc
      refine wp_iconst X dX10_what_31 ic_m1 ?_
      exact wp_iret X Y dX10_what_32 ⟨_, rfl, h⟩
    · have h := ite_t h hc
      refine wp_aload X dX10_what_21 0 rfl ?_
      refine wp_iload_n X dX10_what_23 3 rfl ?_
      refine wp_iload_n X dX10_what_24 4 rfl ?_
      refine cv_Machine_hasTake X dX10_what_25 ml_X10_166 oka9 h (Nat.le_of_ble_eq_true rfl) (by decide) (fun r25 I25 J25 h => ?_)
      refine wp_if_ne (tgt := 33) X dX10_what_28 (by decide) (fun hc => ?_) (fun hc => ?_)
      · have h := ite_f h hc
        refine wp_aload X dX10_what_33 0 rfl ?_
        refine gf_X10_132 (o' := a9 + 3) X oka9.1 rfl dX10_what_35 ?_
        refine wp_iload_n X dX10_what_38 3 rfl ?_
        refine wp_iconst X dX10_what_39 ic_4 ?_
        refine wp_imul X dX10_what_40 ?_
        refine wp_iload_n X dX10_what_41 4 rfl ?_
        refine wp_iadd X dX10_what_42 ?_
        obtain ⟨hb43, h⟩ := h
        refine wp_iald X oka9.2.2.2.1 hb43 dX10_what_43 ?_
        exact wp_iret X Y dX10_what_44 ⟨_, rfl, h⟩
      · have h := ite_t h hc
        refine wp_iconst X dX10_what_31 ic_m1 ?_
        exact wp_iret X Y dX10_what_32 ⟨_, rfl, h⟩

theorem c_School_what {l : Launch} {g : GE} (hg : Inj g) {I : MI} {J : MJ} {Q : Int32 → MI → MJ → Prop} {x1 : Int32} {x2 : Int32} {x3 : Int32}  (h : f_School_what x1 x2 x3 I J Q) : Cm l g yX10_what cX10_what 5 (Option.some Jvm.ClassFile.FieldType.int) 4 [.ref (g.1 0), .int x1, .int x2, .int x3] I J (Pi Q) := by
  refine Cm.of (As := fun ad => [.ref (ad 0), .int x1, .int x2, .int x3]) hg pn_X10 (Nat.le_of_ble_eq_true rfl) ?_
  exact (fun Γ _ _ X Y => w_School_what_b0 X Y  h)
theorem cv_School_what {Γ : Ctx} {cc : ByteArray} {nL d pc index : Nat} {own : String} {L : List (Nat × Value)} {rest : List Value} {I : MI} {J : MJ} {Q : Int32 → MI → MJ → Prop} {x1 : Int32} {x2 : Int32} {x3 : Int32} (X : Cx Γ cc nL own d) (hd : decode cc pc = .ok (.invokevirtual index, 3)) (hlink : Cond.methodLink own index yX10_what ∈ TT)  (h : f_School_what x1 x2 x3 I J Q) (hrest : (rest.map fun v => v.category).sum ≤ 8) (hdd : 4 + 1 ≤ d) (kk : ∀ (r : Int32) (I' : MI) (J' : MJ), Q r I' J' → Wp Γ nL (pc + 3) L (.int r :: rest) I' J') : Wp Γ nL pc L (.int x3 :: .int x2 :: .int x1 :: .ref (ad Γ 0) :: rest) I J :=
  wp_callV (As := [.int x1, .int x2, .int x3]) (rest := rest) (T := TX10) (N := 9) X hd hlink mv_X10_what sh_0 (by decide) rfl (c_School_what X.inj  h) rfl rfl hrest hdd (fun v I' J' hv => by obtain ⟨r, rfl, hq⟩ := hv; exact kk r I' J' hq)
theorem dX10_says_0 : decode cX10_says 0 = .ok (.aload_n 0, 1) := by decide +kernel
theorem dX10_says_1 : decode cX10_says 1 = .ok (.iload_n 1, 1) := by decide +kernel
theorem dX10_says_2 : decode cX10_says 2 = .ok (.invokevirtual 162, 3) := by decide +kernel
theorem dX10_says_5 : decode cX10_says 5 = .ok (.astore_n 3, 1) := by decide +kernel
theorem dX10_says_6 : decode cX10_says 6 = .ok (.aload_n 3, 1) := by decide +kernel
theorem dX10_says_7 : decode cX10_says 7 = .ok (.ifnull 11, 3) := by decide +kernel
theorem dX10_says_10 : decode cX10_says 10 = .ok (.aload_n 3, 1) := by decide +kernel
theorem dX10_says_11 : decode cX10_says 11 = .ok (.iload_n 2, 1) := by decide +kernel
theorem dX10_says_12 : decode cX10_says 12 = .ok (.invokevirtual 118, 3) := by decide +kernel
theorem dX10_says_15 : decode cX10_says 15 = .ok (.ifCond .ne 7, 3) := by decide +kernel
theorem dX10_says_18 : decode cX10_says 18 = .ok (.iconst (-1), 1) := by decide +kernel
theorem dX10_says_19 : decode cX10_says 19 = .ok (.goto 9, 3) := by decide +kernel
theorem dX10_says_22 : decode cX10_says 22 = .ok (.aload_n 3, 1) := by decide +kernel
theorem dX10_says_23 : decode cX10_says 23 = .ok (.getfield 126, 3) := by decide +kernel
theorem dX10_says_26 : decode cX10_says 26 = .ok (.iload_n 2, 1) := by decide +kernel
theorem dX10_says_27 : decode cX10_says 27 = .ok (.iaload, 1) := by decide +kernel
theorem dX10_says_28 : decode cX10_says 28 = .ok (.ireturn, 1) := by decide +kernel
def f_School_says_b18  (Q : Int32 → MI → MJ → Prop) (I : MI) (J : MJ) : Prop :=
  Q (-1) I J
def f_School_says (x1 : Int32) (x2 : Int32) (I : MI) (J : MJ) (Q : Int32 → MI → MJ → Prop) : Prop :=
  f_School_machineAt x1 I J (fun r2 I2 J2 => (match r2 with | none => f_School_says_b18 Q I2 J2 | some a7 => okM a7 ∧ f_Machine_hasState a7 x2 I2 J2 (fun r12 I12 J12 => (if r12 = 0 then f_School_says_b18 Q I12 J12 else vp_in x2 14 ∧ Q (I12 (a7 + 4) x2.toNatClampNeg) I12 J12))))
set_option maxRecDepth 100000 in
set_option maxHeartbeats 4000000 in
theorem w_School_says_b18 {Γ : Ctx} {Q : Int32 → MI → MJ → Prop}   (X : Cx Γ cX10_says 4 RX10 4) (Y : Rt Γ (Pi Q) (Option.some Jvm.ClassFile.FieldType.int))   {I : MI} {J : MJ} (h : f_School_says_b18 Q I J) : Wp Γ 4 18 [] [] I J := by
  unfold f_School_says_b18 at h
  refine wp_iconst X dX10_says_18 ic_m1 ?_
  refine wp_goto (tgt := 28) X dX10_says_19 (by decide) ?_
  exact wp_iret X Y dX10_says_28 ⟨_, rfl, h⟩

set_option maxRecDepth 100000 in
set_option maxHeartbeats 4000000 in
theorem w_School_says_b0 {Γ : Ctx} {Q : Int32 → MI → MJ → Prop} {x1 : Int32} {x2 : Int32}  (X : Cx Γ cX10_says 4 RX10 4) (Y : Rt Γ (Pi Q) (Option.some Jvm.ClassFile.FieldType.int))   {I : MI} {J : MJ} (h : f_School_says x1 x2 I J Q) : Wp Γ 4 0 [(0, .ref (ad Γ 0)), (1, .int x1), (2, .int x2)] [] I J := by
  unfold f_School_says at h
  refine wp_aload_n X dX10_says_0 0 rfl ?_
  refine wp_iload_n X dX10_says_1 1 rfl ?_
  refine cv_School_machineAt X dX10_says_2 ml_X10_162  h (Nat.le_of_ble_eq_true rfl) (by decide) (fun r2 I2 J2 h => ?_)
  refine wp_astore_nQ (L' := [(3, rfN (ad Γ) r2), (0, .ref (ad Γ 0)), (1, .int x1), (2, .int x2)]) X dX10_says_5 rfl (by decide) rfl ?_
  refine wp_aload_nQ X dX10_says_6 0 rfl ?_
  refine wp_ifnull (q := r2) (tgt := 18) X dX10_says_7 (by decide) ?_ ?_
  · intro hq; subst hq
    refine wp_sub X [] rfl ?_
    exact w_School_says_b18 X Y  h
  · intro a7 hq; subst hq; obtain ⟨oka7, h⟩ := h
    refine wp_aload_n X dX10_says_10 0 rfl ?_
    refine wp_iload_n X dX10_says_11 3 rfl ?_
    refine cv_Machine_hasState X dX10_says_12 ml_X10_118 oka7 h (Nat.le_of_ble_eq_true rfl) (by decide) (fun r12 I12 J12 h => ?_)
    refine wp_if_ne (tgt := 22) X dX10_says_15 (by decide) (fun hc => ?_) (fun hc => ?_)
    · have h := ite_f h hc
      refine wp_aload_n X dX10_says_22 0 rfl ?_
      refine gf_X10_126 (o' := a7 + 4) X oka7.1 rfl dX10_says_23 ?_
      refine wp_iload_n X dX10_says_26 3 rfl ?_
      obtain ⟨hb27, h⟩ := h
      refine wp_iald X oka7.2.2.2.2 hb27 dX10_says_27 ?_
      exact wp_iret X Y dX10_says_28 ⟨_, rfl, h⟩
    · have h := ite_t h hc
      refine wp_sub X [] rfl ?_
      exact w_School_says_b18 X Y  h

theorem c_School_says {l : Launch} {g : GE} (hg : Inj g) {I : MI} {J : MJ} {Q : Int32 → MI → MJ → Prop} {x1 : Int32} {x2 : Int32}  (h : f_School_says x1 x2 I J Q) : Cm l g yX10_says cX10_says 4 (Option.some Jvm.ClassFile.FieldType.int) 4 [.ref (g.1 0), .int x1, .int x2] I J (Pi Q) := by
  refine Cm.of (As := fun ad => [.ref (ad 0), .int x1, .int x2]) hg pn_X10 (Nat.le_of_ble_eq_true rfl) ?_
  exact (fun Γ _ _ X Y => w_School_says_b0 X Y  h)
theorem cv_School_says {Γ : Ctx} {cc : ByteArray} {nL d pc index : Nat} {own : String} {L : List (Nat × Value)} {rest : List Value} {I : MI} {J : MJ} {Q : Int32 → MI → MJ → Prop} {x1 : Int32} {x2 : Int32} (X : Cx Γ cc nL own d) (hd : decode cc pc = .ok (.invokevirtual index, 3)) (hlink : Cond.methodLink own index yX10_says ∈ TT)  (h : f_School_says x1 x2 I J Q) (hrest : (rest.map fun v => v.category).sum ≤ 8) (hdd : 4 + 1 ≤ d) (kk : ∀ (r : Int32) (I' : MI) (J' : MJ), Q r I' J' → Wp Γ nL (pc + 3) L (.int r :: rest) I' J') : Wp Γ nL pc L (.int x2 :: .int x1 :: .ref (ad Γ 0) :: rest) I J :=
  wp_callV (As := [.int x1, .int x2]) (rest := rest) (T := TX10) (N := 9) X hd hlink mv_X10_says sh_0 (by decide) rfl (c_School_says X.inj  h) rfl rfl hrest hdd (fun v I' J' hv => by obtain ⟨r, rfl, hq⟩ := hv; exact kk r I' J' hq)
