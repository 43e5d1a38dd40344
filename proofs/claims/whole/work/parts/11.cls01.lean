theorem dX9_lengthOf_0 : decode cX9_lengthOf 0 = .ok (.iconst 0, 1) := by decide +kernel
theorem dX9_lengthOf_1 : decode cX9_lengthOf 1 = .ok (.istore_n 2, 1) := by decide +kernel
theorem dX9_lengthOf_2 : decode cX9_lengthOf 2 = .ok (.iload_n 2, 1) := by decide +kernel
theorem dX9_lengthOf_3 : decode cX9_lengthOf 3 = .ok (.bipush 30, 2) := by decide +kernel
theorem dX9_lengthOf_5 : decode cX9_lengthOf 5 = .ok (.if_icmp .gt 21, 3) := by decide +kernel
theorem dX9_lengthOf_8 : decode cX9_lengthOf 8 = .ok (.lload_n 0, 1) := by decide +kernel
theorem dX9_lengthOf_9 : decode cX9_lengthOf 9 = .ok (.iconst 2, 1) := by decide +kernel
theorem dX9_lengthOf_10 : decode cX9_lengthOf 10 = .ok (.iload_n 2, 1) := by decide +kernel
theorem dX9_lengthOf_11 : decode cX9_lengthOf 11 = .ok (.imul, 1) := by decide +kernel
theorem dX9_lengthOf_12 : decode cX9_lengthOf 12 = .ok (.lshr, 1) := by decide +kernel
theorem dX9_lengthOf_13 : decode cX9_lengthOf 13 = .ok (.lconst 1, 1) := by decide +kernel
theorem dX9_lengthOf_14 : decode cX9_lengthOf 14 = .ok (.lcmp, 1) := by decide +kernel
theorem dX9_lengthOf_15 : decode cX9_lengthOf 15 = .ok (.ifCond .ne 5, 3) := by decide +kernel
theorem dX9_lengthOf_18 : decode cX9_lengthOf 18 = .ok (.iload_n 2, 1) := by decide +kernel
theorem dX9_lengthOf_19 : decode cX9_lengthOf 19 = .ok (.ireturn, 1) := by decide +kernel
theorem dX9_lengthOf_20 : decode cX9_lengthOf 20 = .ok (.iinc 2 1, 3) := by decide +kernel
theorem dX9_lengthOf_23 : decode cX9_lengthOf 23 = .ok (.goto (-21), 3) := by decide +kernel
theorem dX9_lengthOf_26 : decode cX9_lengthOf 26 = .ok (.iconst (-1), 1) := by decide +kernel
theorem dX9_lengthOf_27 : decode cX9_lengthOf 27 = .ok (.ireturn, 1) := by decide +kernel
def f_Words_lengthOf_L2 (x0 : Int64) (k18 : Int32 → MI → MJ → Prop) (k26 : MI → MJ → Prop) : Nat → Int32 → MI → MJ → Prop
  | 0, _, _, _ => False
  | nf2 + 1, x2, I, J =>
  (if 30 < x2 then k26 I J else (if (x0 >>> ((2 * x2).toInt64 &&& 63)) = 1 then k18 x2 I J else ∀ t20 : Int32, t20 = x2 + 1 → f_Words_lengthOf_L2 x0 k18 k26 nf2 t20 I J))
def f_Words_lengthOf (x0 : Int64) (I : MI) (J : MJ) (Q : Int32 → MI → MJ → Prop) : Prop :=
  ∃ n, f_Words_lengthOf_L2 x0 (fun (z18_x2 : Int32) (I : MI) (J : MJ) => Q z18_x2 I J) (fun (I : MI) (J : MJ) => Q (-1) I J) n 0 I J
set_option maxRecDepth 100000 in
set_option maxHeartbeats 4000000 in
theorem w_Words_lengthOf_L2 {Γ : Ctx} {Q : Int32 → MI → MJ → Prop} {x0 : Int64} {k18 : Int32 → MI → MJ → Prop} {k26 : MI → MJ → Prop} (X : Cx Γ cX9_lengthOf 3 RX9 0) (Y : Rt Γ (Pi Q) (Option.some Jvm.ClassFile.FieldType.int))  (hk18 : ∀ (x2 : Int32) (I : MI) (J : MJ), k18 x2 I J → Wp Γ 3 18 [(2, .int x2)] [] I J) (hk26 : ∀ (I : MI) (J : MJ), k26 I J → Wp Γ 3 26 [] [] I J) : ∀ (n : Nat) (x2 : Int32) (I : MI) (J : MJ), f_Words_lengthOf_L2 x0 k18 k26 n x2 I J → Wp Γ 3 2 [(0, .long x0), (2, .int x2)] [] I J := by
  intro n
  induction n with
  | zero => intro x2 I J h; exact absurd h (by simp [f_Words_lengthOf_L2])
  | succ n ih =>
  intro x2 I J h
  unfold f_Words_lengthOf_L2 at h
  refine wp_iload_n X dX9_lengthOf_2 1 rfl ?_
  refine wp_bipush X dX9_lengthOf_3 bi_30 ?_
  refine wp_icmp_gt (tgt := 26) X dX9_lengthOf_5 (by decide) (fun hc => ?_) (fun hc => ?_)
  · have h := ite_t h hc
    refine wp_sub X [] rfl ?_
    exact hk26 _ _ h
  · have h := ite_f h hc
    refine wp_lload_n X dX9_lengthOf_8 0 rfl ?_
    refine wp_iconst X dX9_lengthOf_9 ic_2 ?_
    refine wp_iload_n X dX9_lengthOf_10 1 rfl ?_
    refine wp_imul X dX9_lengthOf_11 ?_
    refine wp_lshr X dX9_lengthOf_12 ?_
    refine wp_lconst X dX9_lengthOf_13 lc_1 ?_
    refine wp_lcmp_ne (tgt := 20) X dX9_lengthOf_14 dX9_lengthOf_15 (by decide) (fun hc => ?_) (fun hc => ?_)
    · have h := ite_f h hc
      obtain ⟨t20, et20⟩ : ∃ y : Int32, y = x2 + 1 := ⟨_, rfl⟩
      have h := h t20 et20
      refine wp_iinc (L' := [(2, .int t20), (0, .long x0)]) X dX9_lengthOf_20 1 rfl (ii_1 et20) (by decide) rfl ?_
      refine wp_goto (tgt := 2) X dX9_lengthOf_23 (by decide) ?_
      refine wp_sub X [1, 0] rfl ?_
      exact ih _ _ _ h
    · have h := ite_t h hc
      refine wp_sub X [1] rfl ?_
      exact hk18 _ _ _ h

set_option maxRecDepth 100000 in
set_option maxHeartbeats 4000000 in
theorem w_Words_lengthOf_b0 {Γ : Ctx} {Q : Int32 → MI → MJ → Prop} {x0 : Int64}  (X : Cx Γ cX9_lengthOf 3 RX9 0) (Y : Rt Γ (Pi Q) (Option.some Jvm.ClassFile.FieldType.int))   {I : MI} {J : MJ} (h : f_Words_lengthOf x0 I J Q) : Wp Γ 3 0 [(0, .long x0)] [] I J := by
  unfold f_Words_lengthOf at h
  refine wp_iconst X dX9_lengthOf_0 ic_0 ?_
  refine wp_istore_n (L' := [(2, .int 0), (0, .long x0)]) X dX9_lengthOf_1 rfl (by decide) rfl ?_
  obtain ⟨n, h⟩ := h
  refine wp_sub X [1, 0] rfl ?_
  refine w_Words_lengthOf_L2 X Y  ?_ ?_ n _ _ _ h
  · intro z18_x2 I J h
    refine wp_iload_n X dX9_lengthOf_18 0 rfl ?_
    exact wp_iret X Y dX9_lengthOf_19 ⟨_, rfl, h⟩
  · intro I J h
    refine wp_iconst X dX9_lengthOf_26 ic_m1 ?_
    exact wp_iret X Y dX9_lengthOf_27 ⟨_, rfl, h⟩

theorem c_Words_lengthOf {l : Launch} {g : GE} (hg : Inj g) {I : MI} {J : MJ} {Q : Int32 → MI → MJ → Prop} {x0 : Int64}  (h : f_Words_lengthOf x0 I J Q) : Cm l g yX9_lengthOf cX9_lengthOf 3 (Option.some Jvm.ClassFile.FieldType.int) 0 [.long x0] I J (Pi Q) := by
  refine Cm.of (As := fun ad => [.long x0]) hg pn_X9 (Nat.le_of_ble_eq_true rfl) ?_
  exact (fun Γ _ _ X Y => w_Words_lengthOf_b0 X Y  h)
theorem cs_Words_lengthOf {Γ : Ctx} {cc : ByteArray} {nL d pc index : Nat} {own : String} {L : List (Nat × Value)} {rest : List Value} {I : MI} {J : MJ} {Q : Int32 → MI → MJ → Prop} {x0 : Int64} (X : Cx Γ cc nL own d) (hd : decode cc pc = .ok (.invokestatic index, 3)) (hlink : Cond.methodLink own index yX9_lengthOf ∈ TT)  (h : f_Words_lengthOf x0 I J Q) (hrest : (rest.map fun v => v.category).sum ≤ 8) (hdd : 0 + 1 ≤ d) (kk : ∀ (r : Int32) (I' : MI) (J' : MJ), Q r I' J' → Wp Γ nL (pc + 3) L (.int r :: rest) I' J') : Wp Γ nL pc L (.long x0 :: rest) I J :=
  wp_callS (As := [.long x0]) (rest := rest) X hd hlink mv_X9_lengthOf (c_Words_lengthOf X.inj  h) rfl rfl hrest hdd (fun v I' J' hv => by obtain ⟨r, rfl, hq⟩ := hv; exact kk r I' J' hq)
theorem dX9_isWord_0 : decode cX9_isWord 0 = .ok (.lload_n 0, 1) := by decide +kernel
theorem dX9_isWord_1 : decode cX9_isWord 1 = .ok (.invokestatic 9, 3) := by decide +kernel
theorem dX9_isWord_4 : decode cX9_isWord 4 = .ok (.iconst (-1), 1) := by decide +kernel
theorem dX9_isWord_5 : decode cX9_isWord 5 = .ok (.if_icmp .eq 7, 3) := by decide +kernel
theorem dX9_isWord_8 : decode cX9_isWord 8 = .ok (.iconst 1, 1) := by decide +kernel
theorem dX9_isWord_9 : decode cX9_isWord 9 = .ok (.goto 4, 3) := by decide +kernel
theorem dX9_isWord_12 : decode cX9_isWord 12 = .ok (.iconst 0, 1) := by decide +kernel
theorem dX9_isWord_13 : decode cX9_isWord 13 = .ok (.ireturn, 1) := by decide +kernel
def f_Words_isWord (x0 : Int64) (I : MI) (J : MJ) (Q : Int32 → MI → MJ → Prop) : Prop :=
  f_Words_lengthOf x0 I J (fun r1 I1 J1 => (if r1 = (-1) then Q 0 I1 J1 else Q 1 I1 J1))
set_option maxRecDepth 100000 in
set_option maxHeartbeats 4000000 in
theorem w_Words_isWord_b0 {Γ : Ctx} {Q : Int32 → MI → MJ → Prop} {x0 : Int64}  (X : Cx Γ cX9_isWord 2 RX9 1) (Y : Rt Γ (Pi Q) (Option.some Jvm.ClassFile.FieldType.boolean))   {I : MI} {J : MJ} (h : f_Words_isWord x0 I J Q) : Wp Γ 2 0 [(0, .long x0)] [] I J := by
  unfold f_Words_isWord at h
  refine wp_lload_n X dX9_isWord_0 0 rfl ?_
  refine cs_Words_lengthOf X dX9_isWord_1 ml_X9_9  h (Nat.le_of_ble_eq_true rfl) (by decide) (fun r1 I1 J1 h => ?_)
  refine wp_iconst X dX9_isWord_4 ic_m1 ?_
  refine wp_icmp_eq (tgt := 12) X dX9_isWord_5 (by decide) (fun hc => ?_) (fun hc => ?_)
  · have h := ite_t h hc
    refine wp_iconst X dX9_isWord_12 ic_0 ?_
    exact wp_zret X Y dX9_isWord_13 (by decide) ⟨_, rfl, h⟩
  · have h := ite_f h hc
    refine wp_iconst X dX9_isWord_8 ic_1 ?_
    refine wp_goto (tgt := 13) X dX9_isWord_9 (by decide) ?_
    exact wp_zret X Y dX9_isWord_13 (by decide) ⟨_, rfl, h⟩

theorem c_Words_isWord {l : Launch} {g : GE} (hg : Inj g) {I : MI} {J : MJ} {Q : Int32 → MI → MJ → Prop} {x0 : Int64}  (h : f_Words_isWord x0 I J Q) : Cm l g yX9_isWord cX9_isWord 2 (Option.some Jvm.ClassFile.FieldType.boolean) 1 [.long x0] I J (Pi Q) := by
  refine Cm.of (As := fun ad => [.long x0]) hg pn_X9 (Nat.le_of_ble_eq_true rfl) ?_
  exact (fun Γ _ _ X Y => w_Words_isWord_b0 X Y  h)
theorem cs_Words_isWord {Γ : Ctx} {cc : ByteArray} {nL d pc index : Nat} {own : String} {L : List (Nat × Value)} {rest : List Value} {I : MI} {J : MJ} {Q : Int32 → MI → MJ → Prop} {x0 : Int64} (X : Cx Γ cc nL own d) (hd : decode cc pc = .ok (.invokestatic index, 3)) (hlink : Cond.methodLink own index yX9_isWord ∈ TT)  (h : f_Words_isWord x0 I J Q) (hrest : (rest.map fun v => v.category).sum ≤ 8) (hdd : 1 + 1 ≤ d) (kk : ∀ (r : Int32) (I' : MI) (J' : MJ), Q r I' J' → Wp Γ nL (pc + 3) L (.int r :: rest) I' J') : Wp Γ nL pc L (.long x0 :: rest) I J :=
  wp_callS (As := [.long x0]) (rest := rest) X hd hlink mv_X9_isWord (c_Words_isWord X.inj  h) rfl rfl hrest hdd (fun v I' J' hv => by obtain ⟨r, rfl, hq⟩ := hv; exact kk r I' J' hq)
theorem dX4_hasForgotten_0 : decode cX4_hasForgotten 0 = .ok (.iconst 0, 1) := by decide +kernel
theorem dX4_hasForgotten_1 : decode cX4_hasForgotten 1 = .ok (.istore_n 3, 1) := by decide +kernel
theorem dX4_hasForgotten_2 : decode cX4_hasForgotten 2 = .ok (.iload_n 3, 1) := by decide +kernel
theorem dX4_hasForgotten_3 : decode cX4_hasForgotten 3 = .ok (.aload_n 0, 1) := by decide +kernel
theorem dX4_hasForgotten_4 : decode cX4_hasForgotten 4 = .ok (.getfield 36, 3) := by decide +kernel
theorem dX4_hasForgotten_7 : decode cX4_hasForgotten 7 = .ok (.if_icmp .ge 22, 3) := by decide +kernel
theorem dX4_hasForgotten_10 : decode cX4_hasForgotten 10 = .ok (.aload_n 0, 1) := by decide +kernel
theorem dX4_hasForgotten_11 : decode cX4_hasForgotten 11 = .ok (.getfield 22, 3) := by decide +kernel
theorem dX4_hasForgotten_14 : decode cX4_hasForgotten 14 = .ok (.iload_n 3, 1) := by decide +kernel
theorem dX4_hasForgotten_15 : decode cX4_hasForgotten 15 = .ok (.laload, 1) := by decide +kernel
theorem dX4_hasForgotten_16 : decode cX4_hasForgotten 16 = .ok (.lload_n 1, 1) := by decide +kernel
theorem dX4_hasForgotten_17 : decode cX4_hasForgotten 17 = .ok (.lcmp, 1) := by decide +kernel
theorem dX4_hasForgotten_18 : decode cX4_hasForgotten 18 = .ok (.ifCond .ne 5, 3) := by decide +kernel
theorem dX4_hasForgotten_21 : decode cX4_hasForgotten 21 = .ok (.iconst 1, 1) := by decide +kernel
theorem dX4_hasForgotten_22 : decode cX4_hasForgotten 22 = .ok (.ireturn, 1) := by decide +kernel
theorem dX4_hasForgotten_23 : decode cX4_hasForgotten 23 = .ok (.iinc 3 1, 3) := by decide +kernel
theorem dX4_hasForgotten_26 : decode cX4_hasForgotten 26 = .ok (.goto (-24), 3) := by decide +kernel
theorem dX4_hasForgotten_29 : decode cX4_hasForgotten 29 = .ok (.iconst 0, 1) := by decide +kernel
theorem dX4_hasForgotten_30 : decode cX4_hasForgotten 30 = .ok (.ireturn, 1) := by decide +kernel
def f_Place_hasForgotten_L2 (x0 : Nat) (x1 : Int64) (k21 : MI → MJ → Prop) (k29 : MI → MJ → Prop) : Nat → Int32 → MI → MJ → Prop
  | 0, _, _, _ => False
  | nf2 + 1, x3, I, J =>
  (if (I x0 3) ≤ x3 then k29 I J else vp_in x3 8 ∧ (if (J (x0 + 6) x3.toNatClampNeg) = x1 then k21 I J else ∀ t23 : Int32, t23 = x3 + 1 → f_Place_hasForgotten_L2 x0 x1 k21 k29 nf2 t23 I J))
def f_Place_hasForgotten (o : Nat) (x1 : Int64) (I : MI) (J : MJ) (Q : Int32 → MI → MJ → Prop) : Prop :=
  ∃ n, f_Place_hasForgotten_L2 o x1 (fun (I : MI) (J : MJ) => Q 1 I J) (fun (I : MI) (J : MJ) => Q 0 I J) n 0 I J
set_option maxRecDepth 100000 in
set_option maxHeartbeats 4000000 in
theorem w_Place_hasForgotten_L2 {Γ : Ctx} {Q : Int32 → MI → MJ → Prop} {x0 : Nat} {x1 : Int64} {k21 : MI → MJ → Prop} {k29 : MI → MJ → Prop} (X : Cx Γ cX4_hasForgotten 4 RX4 0) (Y : Rt Γ (Pi Q) (Option.some Jvm.ClassFile.FieldType.boolean)) (hx0 : okP x0) (hk21 : ∀ (I : MI) (J : MJ), k21 I J → Wp Γ 4 21 [] [] I J) (hk29 : ∀ (I : MI) (J : MJ), k29 I J → Wp Γ 4 29 [] [] I J) : ∀ (n : Nat) (x3 : Int32) (I : MI) (J : MJ), f_Place_hasForgotten_L2 x0 x1 k21 k29 n x3 I J → Wp Γ 4 2 [(0, .ref (ad Γ x0)), (1, .long x1), (3, .int x3)] [] I J := by
  intro n
  induction n with
  | zero => intro x3 I J h; exact absurd h (by simp [f_Place_hasForgotten_L2])
  | succ n ih =>
  intro x3 I J h
  unfold f_Place_hasForgotten_L2 at h
  refine wp_iload_n X dX4_hasForgotten_2 2 rfl ?_
  refine wp_aload_n X dX4_hasForgotten_3 0 rfl ?_
  refine gf_X4_36 X hx0.1 dX4_hasForgotten_4 ?_
  refine wp_icmp_ge (tgt := 29) X dX4_hasForgotten_7 (by decide) (fun hc => ?_) (fun hc => ?_)
  · have h := ite_t h hc
    refine wp_sub X [] rfl ?_
    exact hk29 _ _ h
  · have h := ite_f h hc
    refine wp_aload_n X dX4_hasForgotten_10 0 rfl ?_
    refine gf_X4_22 (o' := x0 + 6) X hx0.1 rfl dX4_hasForgotten_11 ?_
    refine wp_iload_n X dX4_hasForgotten_14 2 rfl ?_
    obtain ⟨hb15, h⟩ := h
    refine wp_lald X hx0.2.2 hb15 dX4_hasForgotten_15 ?_
    refine wp_lload_n X dX4_hasForgotten_16 1 rfl ?_
    refine wp_lcmp_ne (tgt := 23) X dX4_hasForgotten_17 dX4_hasForgotten_18 (by decide) (fun hc => ?_) (fun hc => ?_)
    · have h := ite_f h hc
      obtain ⟨t23, et23⟩ : ∃ y : Int32, y = x3 + 1 := ⟨_, rfl⟩
      have h := h t23 et23
      refine wp_iinc (L' := [(3, .int t23), (0, .ref (ad Γ x0)), (1, .long x1)]) X dX4_hasForgotten_23 2 rfl (ii_1 et23) (by decide) rfl ?_
      refine wp_goto (tgt := 2) X dX4_hasForgotten_26 (by decide) ?_
      refine wp_sub X [1, 2, 0] rfl ?_
      exact ih _ _ _ h
    · have h := ite_t h hc
      refine wp_sub X [] rfl ?_
      exact hk21 _ _ h

set_option maxRecDepth 100000 in
set_option maxHeartbeats 4000000 in
theorem w_Place_hasForgotten_b0 {Γ : Ctx} {Q : Int32 → MI → MJ → Prop} {o : Nat} {x1 : Int64}  (X : Cx Γ cX4_hasForgotten 4 RX4 0) (Y : Rt Γ (Pi Q) (Option.some Jvm.ClassFile.FieldType.boolean)) (ho : okP o)  {I : MI} {J : MJ} (h : f_Place_hasForgotten o x1 I J Q) : Wp Γ 4 0 [(0, .ref (ad Γ o)), (1, .long x1)] [] I J := by
  unfold f_Place_hasForgotten at h
  refine wp_iconst X dX4_hasForgotten_0 ic_0 ?_
  refine wp_istore_n (L' := [(3, .int 0), (0, .ref (ad Γ o)), (1, .long x1)]) X dX4_hasForgotten_1 rfl (by decide) rfl ?_
  obtain ⟨n, h⟩ := h
  refine wp_sub X [1, 2, 0] rfl ?_
  refine w_Place_hasForgotten_L2 X Y ho ?_ ?_ n _ _ _ h
  · intro I J h
    refine wp_iconst X dX4_hasForgotten_21 ic_1 ?_
    exact wp_zret X Y dX4_hasForgotten_22 (by decide) ⟨_, rfl, h⟩
  · intro I J h
    refine wp_iconst X dX4_hasForgotten_29 ic_0 ?_
    exact wp_zret X Y dX4_hasForgotten_30 (by decide) ⟨_, rfl, h⟩

theorem c_Place_hasForgotten {l : Launch} {g : GE} (hg : Inj g) {I : MI} {J : MJ} {Q : Int32 → MI → MJ → Prop} {o : Nat} {x1 : Int64} (ho : okP o) (h : f_Place_hasForgotten o x1 I J Q) : Cm l g yX4_hasForgotten cX4_hasForgotten 4 (Option.some Jvm.ClassFile.FieldType.boolean) 0 [.ref (g.1 o), .long x1] I J (Pi Q) := by
  refine Cm.of (As := fun ad => [.ref (ad o), .long x1]) hg pn_X4 (Nat.le_of_ble_eq_true rfl) ?_
  exact (fun Γ _ _ X Y => w_Place_hasForgotten_b0 X Y ho h)
theorem cv_Place_hasForgotten {Γ : Ctx} {cc : ByteArray} {nL d pc index : Nat} {own : String} {L : List (Nat × Value)} {rest : List Value} {I : MI} {J : MJ} {Q : Int32 → MI → MJ → Prop} {o : Nat} {x1 : Int64} (X : Cx Γ cc nL own d) (hd : decode cc pc = .ok (.invokevirtual index, 3)) (hlink : Cond.methodLink own index yX4_hasForgotten ∈ TT) (ho : okP o) (h : f_Place_hasForgotten o x1 I J Q) (hrest : (rest.map fun v => v.category).sum ≤ 8) (hdd : 0 + 1 ≤ d) (kk : ∀ (r : Int32) (I' : MI) (J' : MJ), Q r I' J' → Wp Γ nL (pc + 3) L (.int r :: rest) I' J') : Wp Γ nL pc L (.long x1 :: .ref (ad Γ o) :: rest) I J :=
  wp_callV (As := [.long x1]) (rest := rest) (T := TX4) (N := 7) X hd hlink mv_X4_hasForgotten ho.1 (by decide) rfl (c_Place_hasForgotten X.inj ho h) rfl rfl hrest hdd (fun v I' J' hv => by obtain ⟨r, rfl, hq⟩ := hv; exact kk r I' J' hq)
theorem dX9_signAt_0 : decode cX9_signAt 0 = .ok (.lload_n 0, 1) := by decide +kernel
theorem dX9_signAt_1 : decode cX9_signAt 1 = .ok (.iconst 2, 1) := by decide +kernel
theorem dX9_signAt_2 : decode cX9_signAt 2 = .ok (.iload_n 2, 1) := by decide +kernel
theorem dX9_signAt_3 : decode cX9_signAt 3 = .ok (.imul, 1) := by decide +kernel
theorem dX9_signAt_4 : decode cX9_signAt 4 = .ok (.lshr, 1) := by decide +kernel
theorem dX9_signAt_5 : decode cX9_signAt 5 = .ok (.l2i, 1) := by decide +kernel
theorem dX9_signAt_6 : decode cX9_signAt 6 = .ok (.iconst 3, 1) := by decide +kernel
theorem dX9_signAt_7 : decode cX9_signAt 7 = .ok (.iand, 1) := by decide +kernel
theorem dX9_signAt_8 : decode cX9_signAt 8 = .ok (.ireturn, 1) := by decide +kernel
def f_Words_signAt (x0 : Int64) (x2 : Int32) (I : MI) (J : MJ) (Q : Int32 → MI → MJ → Prop) : Prop :=
  Q (((x0 >>> ((2 * x2).toInt64 &&& 63)).toInt32) &&& 3) I J
set_option maxRecDepth 100000 in
set_option maxHeartbeats 4000000 in
theorem w_Words_signAt_b0 {Γ : Ctx} {Q : Int32 → MI → MJ → Prop} {x0 : Int64} {x2 : Int32}  (X : Cx Γ cX9_signAt 3 RX9 0) (Y : Rt Γ (Pi Q) (Option.some Jvm.ClassFile.FieldType.int))   {I : MI} {J : MJ} (h : f_Words_signAt x0 x2 I J Q) : Wp Γ 3 0 [(0, .long x0), (2, .int x2)] [] I J := by
  unfold f_Words_signAt at h
  refine wp_lload_n X dX9_signAt_0 0 rfl ?_
  refine wp_iconst X dX9_signAt_1 ic_2 ?_
  refine wp_iload_n X dX9_signAt_2 1 rfl ?_
  refine wp_imul X dX9_signAt_3 ?_
  refine wp_lshr X dX9_signAt_4 ?_
  refine wp_l2i X dX9_signAt_5 ?_
  refine wp_iconst X dX9_signAt_6 ic_3 ?_
  refine wp_iand X dX9_signAt_7 ?_
  exact wp_iret X Y dX9_signAt_8 ⟨_, rfl, h⟩

theorem c_Words_signAt {l : Launch} {g : GE} (hg : Inj g) {I : MI} {J : MJ} {Q : Int32 → MI → MJ → Prop} {x0 : Int64} {x2 : Int32}  (h : f_Words_signAt x0 x2 I J Q) : Cm l g yX9_signAt cX9_signAt 3 (Option.some Jvm.ClassFile.FieldType.int) 0 [.long x0, .int x2] I J (Pi Q) := by
  refine Cm.of (As := fun ad => [.long x0, .int x2]) hg pn_X9 (Nat.le_of_ble_eq_true rfl) ?_
  exact (fun Γ _ _ X Y => w_Words_signAt_b0 X Y  h)
theorem cs_Words_signAt {Γ : Ctx} {cc : ByteArray} {nL d pc index : Nat} {own : String} {L : List (Nat × Value)} {rest : List Value} {I : MI} {J : MJ} {Q : Int32 → MI → MJ → Prop} {x0 : Int64} {x2 : Int32} (X : Cx Γ cc nL own d) (hd : decode cc pc = .ok (.invokestatic index, 3)) (hlink : Cond.methodLink own index yX9_signAt ∈ TT)  (h : f_Words_signAt x0 x2 I J Q) (hrest : (rest.map fun v => v.category).sum ≤ 8) (hdd : 0 + 1 ≤ d) (kk : ∀ (r : Int32) (I' : MI) (J' : MJ), Q r I' J' → Wp Γ nL (pc + 3) L (.int r :: rest) I' J') : Wp Γ nL pc L (.int x2 :: .long x0 :: rest) I J :=
  wp_callS (As := [.long x0, .int x2]) (rest := rest) X hd hlink mv_X9_signAt (c_Words_signAt X.inj  h) rfl rfl hrest hdd (fun v I' J' hv => by obtain ⟨r, rfl, hq⟩ := hv; exact kk r I' J' hq)
theorem dX3_countAfter_0 : decode cX3_countAfter 0 = .ok (.iload_n 0, 1) := by decide +kernel
theorem dX3_countAfter_1 : decode cX3_countAfter 1 = .ok (.tableswitch 62 1 3 #[27, 40, 52], 27) := by decide +kernel
theorem dX3_countAfter_28 : decode cX3_countAfter 28 = .ok (.iload_n 1, 1) := by decide +kernel
theorem dX3_countAfter_29 : decode cX3_countAfter 29 = .ok (.iconst 3, 1) := by decide +kernel
theorem dX3_countAfter_30 : decode cX3_countAfter 30 = .ok (.if_icmp .ge 9, 3) := by decide +kernel
theorem dX3_countAfter_33 : decode cX3_countAfter 33 = .ok (.iload_n 1, 1) := by decide +kernel
theorem dX3_countAfter_34 : decode cX3_countAfter 34 = .ok (.iconst 1, 1) := by decide +kernel
theorem dX3_countAfter_35 : decode cX3_countAfter 35 = .ok (.iadd, 1) := by decide +kernel
theorem dX3_countAfter_36 : decode cX3_countAfter 36 = .ok (.goto 4, 3) := by decide +kernel
theorem dX3_countAfter_39 : decode cX3_countAfter 39 = .ok (.iconst (-1), 1) := by decide +kernel
theorem dX3_countAfter_40 : decode cX3_countAfter 40 = .ok (.ireturn, 1) := by decide +kernel
theorem dX3_countAfter_41 : decode cX3_countAfter 41 = .ok (.iload_n 1, 1) := by decide +kernel
theorem dX3_countAfter_42 : decode cX3_countAfter 42 = .ok (.ifCond .le 9, 3) := by decide +kernel
theorem dX3_countAfter_45 : decode cX3_countAfter 45 = .ok (.iload_n 1, 1) := by decide +kernel
theorem dX3_countAfter_46 : decode cX3_countAfter 46 = .ok (.iconst 1, 1) := by decide +kernel
theorem dX3_countAfter_47 : decode cX3_countAfter 47 = .ok (.isub, 1) := by decide +kernel
theorem dX3_countAfter_48 : decode cX3_countAfter 48 = .ok (.goto 4, 3) := by decide +kernel
theorem dX3_countAfter_51 : decode cX3_countAfter 51 = .ok (.iconst (-1), 1) := by decide +kernel
theorem dX3_countAfter_52 : decode cX3_countAfter 52 = .ok (.ireturn, 1) := by decide +kernel
theorem dX3_countAfter_53 : decode cX3_countAfter 53 = .ok (.iload_n 1, 1) := by decide +kernel
theorem dX3_countAfter_54 : decode cX3_countAfter 54 = .ok (.ifCond .ne 7, 3) := by decide +kernel
theorem dX3_countAfter_57 : decode cX3_countAfter 57 = .ok (.iconst 0, 1) := by decide +kernel
theorem dX3_countAfter_58 : decode cX3_countAfter 58 = .ok (.goto 4, 3) := by decide +kernel
theorem dX3_countAfter_61 : decode cX3_countAfter 61 = .ok (.iconst (-1), 1) := by decide +kernel
theorem dX3_countAfter_62 : decode cX3_countAfter 62 = .ok (.ireturn, 1) := by decide +kernel
theorem dX3_countAfter_63 : decode cX3_countAfter 63 = .ok (.iload_n 1, 1) := by decide +kernel
theorem dX3_countAfter_64 : decode cX3_countAfter 64 = .ok (.ireturn, 1) := by decide +kernel
def f_Machine_countAfter (x0 : Int32) (x1 : Int32) (I : MI) (J : MJ) (Q : Int32 → MI → MJ → Prop) : Prop :=
  (if x0 = 1 then (if 3 ≤ x1 then Q (-1) I J else Q (x1 + 1) I J) else (if x0 = 2 then (if x1 ≤ 0 then Q (-1) I J else Q (x1 - 1) I J) else (if x0 = 3 then (if x1 = 0 then Q 0 I J else Q (-1) I J) else Q x1 I J)))
set_option maxRecDepth 100000 in
set_option maxHeartbeats 4000000 in
theorem w_Machine_countAfter_b0 {Γ : Ctx} {Q : Int32 → MI → MJ → Prop} {x0 : Int32} {x1 : Int32}  (X : Cx Γ cX3_countAfter 2 RX3 0) (Y : Rt Γ (Pi Q) (Option.some Jvm.ClassFile.FieldType.int))   {I : MI} {J : MJ} (h : f_Machine_countAfter x0 x1 I J Q) : Wp Γ 2 0 [(0, .int x0), (1, .int x1)] [] I J := by
  unfold f_Machine_countAfter at h
  refine wp_iload_n X dX3_countAfter_0 0 rfl ?_
  by_cases hs1 : x0 = 1
  · have h := ite_t h hs1
    refine wp_tab (tgt := 28) (y := 1) X dX3_countAfter_1 hs1 (by decide) (by decide) rfl (by decide) ?_
    refine wp_iload_n X dX3_countAfter_28 1 rfl ?_
    refine wp_iconst X dX3_countAfter_29 ic_3 ?_
    refine wp_icmp_ge (tgt := 39) X dX3_countAfter_30 (by decide) (fun hc => ?_) (fun hc => ?_)
    · have h := ite_t h hc
      refine wp_iconst X dX3_countAfter_39 ic_m1 ?_
      exact wp_iret X Y dX3_countAfter_40 ⟨_, rfl, h⟩
    · have h := ite_f h hc
      refine wp_iload_n X dX3_countAfter_33 1 rfl ?_
      refine wp_iconst X dX3_countAfter_34 ic_1 ?_
      refine wp_iadd X dX3_countAfter_35 ?_
      refine wp_goto (tgt := 40) X dX3_countAfter_36 (by decide) ?_
      exact wp_iret X Y dX3_countAfter_40 ⟨_, rfl, h⟩
  have h := ite_f h hs1
  by_cases hs2 : x0 = 2
  · have h := ite_t h hs2
    refine wp_tab (tgt := 41) (y := 2) X dX3_countAfter_1 hs2 (by decide) (by decide) rfl (by decide) ?_
    refine wp_iload_n X dX3_countAfter_41 1 rfl ?_
    refine wp_if_le (tgt := 51) X dX3_countAfter_42 (by decide) (fun hc => ?_) (fun hc => ?_)
    · have h := ite_t h hc
      refine wp_iconst X dX3_countAfter_51 ic_m1 ?_
      exact wp_iret X Y dX3_countAfter_52 ⟨_, rfl, h⟩
    · have h := ite_f h hc
      refine wp_iload_n X dX3_countAfter_45 1 rfl ?_
      refine wp_iconst X dX3_countAfter_46 ic_1 ?_
      refine wp_isub X dX3_countAfter_47 ?_
      refine wp_goto (tgt := 52) X dX3_countAfter_48 (by decide) ?_
      exact wp_iret X Y dX3_countAfter_52 ⟨_, rfl, h⟩
  have h := ite_f h hs2
  by_cases hs3 : x0 = 3
  · have h := ite_t h hs3
    refine wp_tab (tgt := 53) (y := 3) X dX3_countAfter_1 hs3 (by decide) (by decide) rfl (by decide) ?_
    refine wp_iload_n X dX3_countAfter_53 1 rfl ?_
    refine wp_if_ne (tgt := 61) X dX3_countAfter_54 (by decide) (fun hc => ?_) (fun hc => ?_)
    · have h := ite_f h hc
      refine wp_iconst X dX3_countAfter_61 ic_m1 ?_
      exact wp_iret X Y dX3_countAfter_62 ⟨_, rfl, h⟩
    · have h := ite_t h hc
      refine wp_iconst X dX3_countAfter_57 ic_0 ?_
      refine wp_goto (tgt := 62) X dX3_countAfter_58 (by decide) ?_
      exact wp_iret X Y dX3_countAfter_62 ⟨_, rfl, h⟩
  have h := ite_f h hs3
  have nt1 := lv_neT hs1 (a := 1) (by decide)
  have nt2 := lv_neT hs2 (a := 2) (by decide)
  have nt3 := lv_neT hs3 (a := 3) (by decide)
  refine wp_tableOut (tgt := 63) X dX3_countAfter_1 (by omega) (by decide) ?_
  refine wp_iload_n X dX3_countAfter_63 1 rfl ?_
  exact wp_iret X Y dX3_countAfter_64 ⟨_, rfl, h⟩

theorem c_Machine_countAfter {l : Launch} {g : GE} (hg : Inj g) {I : MI} {J : MJ} {Q : Int32 → MI → MJ → Prop} {x0 : Int32} {x1 : Int32}  (h : f_Machine_countAfter x0 x1 I J Q) : Cm l g yX3_countAfter cX3_countAfter 2 (Option.some Jvm.ClassFile.FieldType.int) 0 [.int x0, .int x1] I J (Pi Q) := by
  refine Cm.of (As := fun ad => [.int x0, .int x1]) hg pn_X3 (Nat.le_of_ble_eq_true rfl) ?_
  exact (fun Γ _ _ X Y => w_Machine_countAfter_b0 X Y  h)
theorem cs_Machine_countAfter {Γ : Ctx} {cc : ByteArray} {nL d pc index : Nat} {own : String} {L : List (Nat × Value)} {rest : List Value} {I : MI} {J : MJ} {Q : Int32 → MI → MJ → Prop} {x0 : Int32} {x1 : Int32} (X : Cx Γ cc nL own d) (hd : decode cc pc = .ok (.invokestatic index, 3)) (hlink : Cond.methodLink own index yX3_countAfter ∈ TT)  (h : f_Machine_countAfter x0 x1 I J Q) (hrest : (rest.map fun v => v.category).sum ≤ 8) (hdd : 0 + 1 ≤ d) (kk : ∀ (r : Int32) (I' : MI) (J' : MJ), Q r I' J' → Wp Γ nL (pc + 3) L (.int r :: rest) I' J') : Wp Γ nL pc L (.int x1 :: .int x0 :: rest) I J :=
  wp_callS (As := [.int x0, .int x1]) (rest := rest) X hd hlink mv_X3_countAfter (c_Machine_countAfter X.inj  h) rfl rfl hrest hdd (fun v I' J' hv => by obtain ⟨r, rfl, hq⟩ := hv; exact kk r I' J' hq)
theorem dX3_nextKey_0 : decode cX3_nextKey 0 = .ok (.iload_n 1, 1) := by decide +kernel
theorem dX3_nextKey_1 : decode cX3_nextKey 1 = .ok (.iconst 4, 1) := by decide +kernel
theorem dX3_nextKey_2 : decode cX3_nextKey 2 = .ok (.idiv, 1) := by decide +kernel
theorem dX3_nextKey_3 : decode cX3_nextKey 3 = .ok (.istore_n 3, 1) := by decide +kernel
theorem dX3_nextKey_4 : decode cX3_nextKey 4 = .ok (.iload_n 1, 1) := by decide +kernel
theorem dX3_nextKey_5 : decode cX3_nextKey 5 = .ok (.ifCond .lt 25, 3) := by decide +kernel
theorem dX3_nextKey_8 : decode cX3_nextKey 8 = .ok (.iload_n 3, 1) := by decide +kernel
theorem dX3_nextKey_9 : decode cX3_nextKey 9 = .ok (.aload_n 0, 1) := by decide +kernel
theorem dX3_nextKey_10 : decode cX3_nextKey 10 = .ok (.getfield 28, 3) := by decide +kernel
theorem dX3_nextKey_13 : decode cX3_nextKey 13 = .ok (.if_icmp .ge 17, 3) := by decide +kernel
theorem dX3_nextKey_16 : decode cX3_nextKey 16 = .ok (.iload_n 2, 1) := by decide +kernel
theorem dX3_nextKey_17 : decode cX3_nextKey 17 = .ok (.ifCond .lt 13, 3) := by decide +kernel
theorem dX3_nextKey_20 : decode cX3_nextKey 20 = .ok (.iload_n 2, 1) := by decide +kernel
theorem dX3_nextKey_21 : decode cX3_nextKey 21 = .ok (.aload_n 0, 1) := by decide +kernel
theorem dX3_nextKey_22 : decode cX3_nextKey 22 = .ok (.getfield 9, 3) := by decide +kernel
theorem dX3_nextKey_25 : decode cX3_nextKey 25 = .ok (.iload_n 3, 1) := by decide +kernel
theorem dX3_nextKey_26 : decode cX3_nextKey 26 = .ok (.iaload, 1) := by decide +kernel
theorem dX3_nextKey_27 : decode cX3_nextKey 27 = .ok (.if_icmp .lt 5, 3) := by decide +kernel
theorem dX3_nextKey_30 : decode cX3_nextKey 30 = .ok (.iconst (-1), 1) := by decide +kernel
theorem dX3_nextKey_31 : decode cX3_nextKey 31 = .ok (.ireturn, 1) := by decide +kernel
theorem dX3_nextKey_32 : decode cX3_nextKey 32 = .ok (.aload_n 0, 1) := by decide +kernel
theorem dX3_nextKey_33 : decode cX3_nextKey 33 = .ok (.getfield 15, 3) := by decide +kernel
theorem dX3_nextKey_36 : decode cX3_nextKey 36 = .ok (.iload_n 3, 1) := by decide +kernel
theorem dX3_nextKey_37 : decode cX3_nextKey 37 = .ok (.iconst 4, 1) := by decide +kernel
theorem dX3_nextKey_38 : decode cX3_nextKey 38 = .ok (.imul, 1) := by decide +kernel
theorem dX3_nextKey_39 : decode cX3_nextKey 39 = .ok (.iload_n 2, 1) := by decide +kernel
theorem dX3_nextKey_40 : decode cX3_nextKey 40 = .ok (.iadd, 1) := by decide +kernel
theorem dX3_nextKey_41 : decode cX3_nextKey 41 = .ok (.iaload, 1) := by decide +kernel
theorem dX3_nextKey_42 : decode cX3_nextKey 42 = .ok (.istore 4, 2) := by decide +kernel
theorem dX3_nextKey_44 : decode cX3_nextKey 44 = .ok (.aload_n 0, 1) := by decide +kernel
theorem dX3_nextKey_45 : decode cX3_nextKey 45 = .ok (.getfield 18, 3) := by decide +kernel
theorem dX3_nextKey_48 : decode cX3_nextKey 48 = .ok (.iload_n 3, 1) := by decide +kernel
theorem dX3_nextKey_49 : decode cX3_nextKey 49 = .ok (.iconst 4, 1) := by decide +kernel
theorem dX3_nextKey_50 : decode cX3_nextKey 50 = .ok (.imul, 1) := by decide +kernel
theorem dX3_nextKey_51 : decode cX3_nextKey 51 = .ok (.iload_n 2, 1) := by decide +kernel
theorem dX3_nextKey_52 : decode cX3_nextKey 52 = .ok (.iadd, 1) := by decide +kernel
theorem dX3_nextKey_53 : decode cX3_nextKey 53 = .ok (.iaload, 1) := by decide +kernel
theorem dX3_nextKey_54 : decode cX3_nextKey 54 = .ok (.iload_n 1, 1) := by decide +kernel
theorem dX3_nextKey_55 : decode cX3_nextKey 55 = .ok (.iconst 4, 1) := by decide +kernel
theorem dX3_nextKey_56 : decode cX3_nextKey 56 = .ok (.irem, 1) := by decide +kernel
theorem dX3_nextKey_57 : decode cX3_nextKey 57 = .ok (.invokestatic 71, 3) := by decide +kernel
theorem dX3_nextKey_60 : decode cX3_nextKey 60 = .ok (.istore 5, 2) := by decide +kernel
theorem dX3_nextKey_62 : decode cX3_nextKey 62 = .ok (.iload 4, 2) := by decide +kernel
theorem dX3_nextKey_64 : decode cX3_nextKey 64 = .ok (.iconst (-1), 1) := by decide +kernel
theorem dX3_nextKey_65 : decode cX3_nextKey 65 = .ok (.if_icmp .eq 9, 3) := by decide +kernel
theorem dX3_nextKey_68 : decode cX3_nextKey 68 = .ok (.iload 5, 2) := by decide +kernel
theorem dX3_nextKey_70 : decode cX3_nextKey 70 = .ok (.iconst (-1), 1) := by decide +kernel
theorem dX3_nextKey_71 : decode cX3_nextKey 71 = .ok (.if_icmp .ne 7, 3) := by decide +kernel
theorem dX3_nextKey_74 : decode cX3_nextKey 74 = .ok (.iconst (-1), 1) := by decide +kernel
theorem dX3_nextKey_75 : decode cX3_nextKey 75 = .ok (.goto 10, 3) := by decide +kernel
theorem dX3_nextKey_78 : decode cX3_nextKey 78 = .ok (.iload 4, 2) := by decide +kernel
theorem dX3_nextKey_80 : decode cX3_nextKey 80 = .ok (.iconst 4, 1) := by decide +kernel
theorem dX3_nextKey_81 : decode cX3_nextKey 81 = .ok (.imul, 1) := by decide +kernel
theorem dX3_nextKey_82 : decode cX3_nextKey 82 = .ok (.iload 5, 2) := by decide +kernel
theorem dX3_nextKey_84 : decode cX3_nextKey 84 = .ok (.iadd, 1) := by decide +kernel
theorem dX3_nextKey_85 : decode cX3_nextKey 85 = .ok (.ireturn, 1) := by decide +kernel
def f_Machine_nextKey_b74  (Q : Int32 → MI → MJ → Prop) (I : MI) (J : MJ) : Prop :=
  Q (-1) I J
def f_Machine_nextKey (o : Nat) (x1 : Int32) (x2 : Int32) (I : MI) (J : MJ) (Q : Int32 → MI → MJ → Prop) : Prop :=
  ∀ t3 : Int32, t3 = x1 / 4 → (if x1 < 0 then Q (-1) I J else (if (I o 1) ≤ t3 then Q (-1) I J else (if x2 < 0 then Q (-1) I J else vp_in t3 14 ∧ (if x2 < (I (o + 1) t3.toNatClampNeg) then vp_in ((t3 * 4) + x2) 56 ∧ ∀ t42 : Int32, t42 = I (o + 2) ((t3 * 4) + x2).toNatClampNeg → vp_in ((t3 * 4) + x2) 56 ∧ f_Machine_countAfter (I (o + 3) ((t3 * 4) + x2).toNatClampNeg) (x1 - x1 / 4 * 4) I J (fun r57 I57 J57 => (if t42 = (-1) then f_Machine_nextKey_b74 Q I57 J57 else (if r57 = (-1) then f_Machine_nextKey_b74 Q I57 J57 else Q ((t42 * 4) + r57) I57 J57))) else Q (-1) I J))))
set_option maxRecDepth 100000 in
set_option maxHeartbeats 4000000 in
theorem w_Machine_nextKey_b74 {Γ : Ctx} {Q : Int32 → MI → MJ → Prop}   (X : Cx Γ cX3_nextKey 6 RX3 1) (Y : Rt Γ (Pi Q) (Option.some Jvm.ClassFile.FieldType.int))   {I : MI} {J : MJ} (h : f_Machine_nextKey_b74 Q I J) : Wp Γ 6 74 [] [] I J := by
  unfold f_Machine_nextKey_b74 at h
  refine wp_iconst X dX3_nextKey_74 ic_m1 ?_
  refine wp_goto (tgt := 85) X dX3_nextKey_75 (by decide) ?_
  exact wp_iret X Y dX3_nextKey_85 ⟨_, rfl, h⟩

set_option maxRecDepth 100000 in
set_option maxHeartbeats 4000000 in
theorem w_Machine_nextKey_b0 {Γ : Ctx} {Q : Int32 → MI → MJ → Prop} {o : Nat} {x1 : Int32} {x2 : Int32}  (X : Cx Γ cX3_nextKey 6 RX3 1) (Y : Rt Γ (Pi Q) (Option.some Jvm.ClassFile.FieldType.int)) (ho : okM o)  {I : MI} {J : MJ} (h : f_Machine_nextKey o x1 x2 I J Q) : Wp Γ 6 0 [(0, .ref (ad Γ o)), (1, .int x1), (2, .int x2)] [] I J := by
  unfold f_Machine_nextKey at h
  refine wp_iload_n X dX3_nextKey_0 1 rfl ?_
  refine wp_iconst X dX3_nextKey_1 ic_4 ?_
  refine wp_idiv X dX3_nextKey_2 (by decide) ?_
  refine wp_topi (fun t3 et3 => ?_)
  have h := h t3 et3
  refine wp_istore_n (L' := [(3, .int t3), (0, .ref (ad Γ o)), (1, .int x1), (2, .int x2)]) X dX3_nextKey_3 rfl (by decide) rfl ?_
  refine wp_iload_n X dX3_nextKey_4 2 rfl ?_
  refine wp_if_lt (tgt := 30) X dX3_nextKey_5 (by decide) (fun hc => ?_) (fun hc => ?_)
  · have h := ite_t h hc
    refine wp_iconst X dX3_nextKey_30 ic_m1 ?_
    exact wp_iret X Y dX3_nextKey_31 ⟨_, rfl, h⟩
  · have h := ite_f h hc
    refine wp_iload_n X dX3_nextKey_8 0 rfl ?_
    refine wp_aload_n X dX3_nextKey_9 1 rfl ?_
    refine gf_X3_28 X ho.1 dX3_nextKey_10 ?_
    refine wp_icmp_ge (tgt := 30) X dX3_nextKey_13 (by decide) (fun hc => ?_) (fun hc => ?_)
    · have h := ite_t h hc
      refine wp_iconst X dX3_nextKey_30 ic_m1 ?_
      exact wp_iret X Y dX3_nextKey_31 ⟨_, rfl, h⟩
    · have h := ite_f h hc
      refine wp_iload_n X dX3_nextKey_16 3 rfl ?_
      refine wp_if_lt (tgt := 30) X dX3_nextKey_17 (by decide) (fun hc => ?_) (fun hc => ?_)
      · have h := ite_t h hc
        refine wp_iconst X dX3_nextKey_30 ic_m1 ?_
        exact wp_iret X Y dX3_nextKey_31 ⟨_, rfl, h⟩
      · have h := ite_f h hc
        refine wp_iload_n X dX3_nextKey_20 3 rfl ?_
        refine wp_aload_n X dX3_nextKey_21 1 rfl ?_
        refine gf_X3_9 (o' := o + 1) X ho.1 rfl dX3_nextKey_22 ?_
        refine wp_iload_n X dX3_nextKey_25 0 rfl ?_
        obtain ⟨hb26, h⟩ := h
        refine wp_iald X ho.2.1 hb26 dX3_nextKey_26 ?_
        refine wp_icmp_lt (tgt := 32) X dX3_nextKey_27 (by decide) (fun hc => ?_) (fun hc => ?_)
        · have h := ite_t h hc
          refine wp_aload_n X dX3_nextKey_32 1 rfl ?_
          refine gf_X3_15 (o' := o + 2) X ho.1 rfl dX3_nextKey_33 ?_
          refine wp_iload_n X dX3_nextKey_36 0 rfl ?_
          refine wp_iconst X dX3_nextKey_37 ic_4 ?_
          refine wp_imul X dX3_nextKey_38 ?_
          refine wp_iload_n X dX3_nextKey_39 3 rfl ?_
          refine wp_iadd X dX3_nextKey_40 ?_
          obtain ⟨hb41, h⟩ := h
          refine wp_iald X ho.2.2.1 hb41 dX3_nextKey_41 ?_
          refine wp_topi (fun t42 et42 => ?_)
          have h := h t42 et42
          refine wp_istore (L' := [(4, .int t42), (3, .int t3), (0, .ref (ad Γ o)), (1, .int x1), (2, .int x2)]) X dX3_nextKey_42 (by decide) rfl ?_
          refine wp_aload_n X dX3_nextKey_44 2 rfl ?_
          refine gf_X3_18 (o' := o + 3) X ho.1 rfl dX3_nextKey_45 ?_
          refine wp_iload_n X dX3_nextKey_48 1 rfl ?_
          refine wp_iconst X dX3_nextKey_49 ic_4 ?_
          refine wp_imul X dX3_nextKey_50 ?_
          refine wp_iload_n X dX3_nextKey_51 4 rfl ?_
          refine wp_iadd X dX3_nextKey_52 ?_
          obtain ⟨hb53, h⟩ := h
          refine wp_iald X ho.2.2.2.1 hb53 dX3_nextKey_53 ?_
          refine wp_iload_n X dX3_nextKey_54 3 rfl ?_
          refine wp_iconst X dX3_nextKey_55 ic_4 ?_
          refine wp_irem X dX3_nextKey_56 (by decide) ?_
          refine cs_Machine_countAfter X dX3_nextKey_57 ml_X3_71  h (Nat.le_of_ble_eq_true rfl) (by decide) (fun r57 I57 J57 h => ?_)
          refine wp_istore (L' := [(5, .int r57), (4, .int t42), (3, .int t3), (0, .ref (ad Γ o)), (1, .int x1), (2, .int x2)]) X dX3_nextKey_60 (by decide) rfl ?_
          refine wp_iload X dX3_nextKey_62 1 rfl ?_
          refine wp_iconst X dX3_nextKey_64 ic_m1 ?_
          refine wp_icmp_eq (tgt := 74) X dX3_nextKey_65 (by decide) (fun hc => ?_) (fun hc => ?_)
          · have h := ite_t h hc
            refine wp_sub X [] rfl ?_
            exact w_Machine_nextKey_b74 X Y  h
          · have h := ite_f h hc
            refine wp_iload X dX3_nextKey_68 0 rfl ?_
            refine wp_iconst X dX3_nextKey_70 ic_m1 ?_
            refine wp_icmp_ne (tgt := 78) X dX3_nextKey_71 (by decide) (fun hc => ?_) (fun hc => ?_)
            · have h := ite_f h hc
              refine wp_iload X dX3_nextKey_78 1 rfl ?_
              refine wp_iconst X dX3_nextKey_80 ic_4 ?_
              refine wp_imul X dX3_nextKey_81 ?_
              refine wp_iload X dX3_nextKey_82 0 rfl ?_
              refine wp_iadd X dX3_nextKey_84 ?_
              exact wp_iret X Y dX3_nextKey_85 ⟨_, rfl, h⟩
            · have h := ite_t h hc
              refine wp_sub X [] rfl ?_
              exact w_Machine_nextKey_b74 X Y  h
        · have h := ite_f h hc
          refine wp_iconst X dX3_nextKey_30 ic_m1 ?_
          exact wp_iret X Y dX3_nextKey_31 ⟨_, rfl, h⟩

theorem c_Machine_nextKey {l : Launch} {g : GE} (hg : Inj g) {I : MI} {J : MJ} {Q : Int32 → MI → MJ → Prop} {o : Nat} {x1 : Int32} {x2 : Int32} (ho : okM o) (h : f_Machine_nextKey o x1 x2 I J Q) : Cm l g yX3_nextKey cX3_nextKey 6 (Option.some Jvm.ClassFile.FieldType.int) 1 [.ref (g.1 o), .int x1, .int x2] I J (Pi Q) := by
  refine Cm.of (As := fun ad => [.ref (ad o), .int x1, .int x2]) hg pn_X3 (Nat.le_of_ble_eq_true rfl) ?_
  exact (fun Γ _ _ X Y => w_Machine_nextKey_b0 X Y ho h)
theorem cu_Machine_nextKey {Γ : Ctx} {cc : ByteArray} {nL d pc index : Nat} {own : String} {L : List (Nat × Value)} {rest : List Value} {I : MI} {J : MJ} {Q : Int32 → MI → MJ → Prop} {o : Nat} {x1 : Int32} {x2 : Int32} (X : Cx Γ cc nL own d) (hd : decode cc pc = .ok (.invokevirtual index, 3)) (hlink : Cond.methodLink own index ⟨RX8, "nextKey", "(II)I"⟩ ∈ TT) (ho : okM o) (h : f_Machine_nextKey o x1 x2 I J Q) (hrest : (rest.map fun v => v.category).sum ≤ 8) (hdd : 1 + 1 ≤ d) (kk : ∀ (r : Int32) (I' : MI) (J' : MJ), Q r I' J' → Wp Γ nL (pc + 3) L (.int r :: rest) I' J') : Wp Γ nL pc L (.int x2 :: .int x1 :: .ref (ad Γ o) :: rest) I J :=
  wp_callU (x := ⟨RX8, "nextKey", "(II)I"⟩) (n := 2) (As := [.int x1, .int x2]) (rest := rest) (T := TX3) (N := 7) X hd hlink rfl (fun g U h => h.2.2.1) (TT_at 751 (by decide +kernel) rfl) (TT_at 774 (by decide +kernel) rfl) (TT_at 633 (by decide +kernel) rfl) (TT_at 112 (by decide +kernel) rfl) (TT_at 635 (by decide +kernel) rfl) (by decide +kernel) (by decide) ho.1 (by decide) rfl (c_Machine_nextKey X.inj ho h) rfl rfl hrest hdd (fun v I' J' hv => by obtain ⟨r, rfl, hq⟩ := hv; exact kk r I' J' hq)
theorem cv_Machine_nextKey {Γ : Ctx} {cc : ByteArray} {nL d pc index : Nat} {own : String} {L : List (Nat × Value)} {rest : List Value} {I : MI} {J : MJ} {Q : Int32 → MI → MJ → Prop} {o : Nat} {x1 : Int32} {x2 : Int32} (X : Cx Γ cc nL own d) (hd : decode cc pc = .ok (.invokevirtual index, 3)) (hlink : Cond.methodLink own index yX3_nextKey ∈ TT) (ho : okM o) (h : f_Machine_nextKey o x1 x2 I J Q) (hrest : (rest.map fun v => v.category).sum ≤ 8) (hdd : 1 + 1 ≤ d) (kk : ∀ (r : Int32) (I' : MI) (J' : MJ), Q r I' J' → Wp Γ nL (pc + 3) L (.int r :: rest) I' J') : Wp Γ nL pc L (.int x2 :: .int x1 :: .ref (ad Γ o) :: rest) I J :=
  wp_callV (As := [.int x1, .int x2]) (rest := rest) (T := TX3) (N := 7) X hd hlink mv_X3_nextKey ho.1 (by decide) rfl (c_Machine_nextKey X.inj ho h) rfl rfl hrest hdd (fun v I' J' hv => by obtain ⟨r, rfl, hq⟩ := hv; exact kk r I' J' hq)
theorem dX3_runFrom_0 : decode cX3_runFrom 0 = .ok (.iload_n 1, 1) := by decide +kernel
theorem dX3_runFrom_1 : decode cX3_runFrom 1 = .ok (.istore 4, 2) := by decide +kernel
theorem dX3_runFrom_3 : decode cX3_runFrom 3 = .ok (.lload_n 2, 1) := by decide +kernel
theorem dX3_runFrom_4 : decode cX3_runFrom 4 = .ok (.invokestatic 74, 3) := by decide +kernel
theorem dX3_runFrom_7 : decode cX3_runFrom 7 = .ok (.iconst 1, 1) := by decide +kernel
theorem dX3_runFrom_8 : decode cX3_runFrom 8 = .ok (.isub, 1) := by decide +kernel
theorem dX3_runFrom_9 : decode cX3_runFrom 9 = .ok (.istore 5, 2) := by decide +kernel
theorem dX3_runFrom_11 : decode cX3_runFrom 11 = .ok (.iload 5, 2) := by decide +kernel
theorem dX3_runFrom_13 : decode cX3_runFrom 13 = .ok (.ifCond .lt 29, 3) := by decide +kernel
theorem dX3_runFrom_16 : decode cX3_runFrom 16 = .ok (.iload 4, 2) := by decide +kernel
theorem dX3_runFrom_18 : decode cX3_runFrom 18 = .ok (.iconst (-1), 1) := by decide +kernel
theorem dX3_runFrom_19 : decode cX3_runFrom 19 = .ok (.if_icmp .eq 23, 3) := by decide +kernel
theorem dX3_runFrom_22 : decode cX3_runFrom 22 = .ok (.aload_n 0, 1) := by decide +kernel
theorem dX3_runFrom_23 : decode cX3_runFrom 23 = .ok (.iload 4, 2) := by decide +kernel
theorem dX3_runFrom_25 : decode cX3_runFrom 25 = .ok (.lload_n 2, 1) := by decide +kernel
theorem dX3_runFrom_26 : decode cX3_runFrom 26 = .ok (.iload 5, 2) := by decide +kernel
theorem dX3_runFrom_28 : decode cX3_runFrom 28 = .ok (.invokestatic 80, 3) := by decide +kernel
theorem dX3_runFrom_31 : decode cX3_runFrom 31 = .ok (.invokevirtual 84, 3) := by decide +kernel
theorem dX3_runFrom_34 : decode cX3_runFrom 34 = .ok (.istore 4, 2) := by decide +kernel
theorem dX3_runFrom_36 : decode cX3_runFrom 36 = .ok (.iinc 5 (-1), 3) := by decide +kernel
theorem dX3_runFrom_39 : decode cX3_runFrom 39 = .ok (.goto (-28), 3) := by decide +kernel
theorem dX3_runFrom_42 : decode cX3_runFrom 42 = .ok (.iload 4, 2) := by decide +kernel
theorem dX3_runFrom_44 : decode cX3_runFrom 44 = .ok (.ireturn, 1) := by decide +kernel
def f_Machine_runFrom_L11 (x0 : Nat) (x2 : Int64) (k42 : Int32 → MI → MJ → Prop) : Nat → Int32 → Int32 → MI → MJ → Prop
  | 0, _, _, _, _ => False
  | nf11 + 1, x4, x5, I, J =>
  (if x5 < 0 then k42 x4 I J else (if x4 = (-1) then k42 x4 I J else f_Words_signAt x2 x5 I J (fun r28 I28 J28 => f_Machine_nextKey x0 x4 r28 I28 J28 (fun r31 I31 J31 => ∀ t36 : Int32, t36 = x5 + (-1) → f_Machine_runFrom_L11 x0 x2 k42 nf11 r31 t36 I31 J31))))
def f_Machine_runFrom (o : Nat) (x1 : Int32) (x2 : Int64) (I : MI) (J : MJ) (Q : Int32 → MI → MJ → Prop) : Prop :=
  f_Words_lengthOf x2 I J (fun r4 I4 J4 => ∀ t9 : Int32, t9 = r4 - 1 → ∃ n, f_Machine_runFrom_L11 o x2 (fun (z42_x4 : Int32) (I : MI) (J : MJ) => Q z42_x4 I J) n x1 t9 I4 J4)
set_option maxRecDepth 100000 in
set_option maxHeartbeats 4000000 in
theorem w_Machine_runFrom_L11 {Γ : Ctx} {Q : Int32 → MI → MJ → Prop} {x0 : Nat} {x2 : Int64} {k42 : Int32 → MI → MJ → Prop} (X : Cx Γ cX3_runFrom 6 RX3 2) (Y : Rt Γ (Pi Q) (Option.some Jvm.ClassFile.FieldType.int)) (hx0 : okM x0) (hk42 : ∀ (x4 : Int32) (I : MI) (J : MJ), k42 x4 I J → Wp Γ 6 42 [(4, .int x4)] [] I J) : ∀ (n : Nat) (x4 : Int32) (x5 : Int32) (I : MI) (J : MJ), f_Machine_runFrom_L11 x0 x2 k42 n x4 x5 I J → Wp Γ 6 11 [(0, .ref (ad Γ x0)), (2, .long x2), (4, .int x4), (5, .int x5)] [] I J := by
  intro n
  induction n with
  | zero => intro x4 x5 I J h; exact absurd h (by simp [f_Machine_runFrom_L11])
  | succ n ih =>
  intro x4 x5 I J h
  unfold f_Machine_runFrom_L11 at h
  refine wp_iload X dX3_runFrom_11 3 rfl ?_
  refine wp_if_lt (tgt := 42) X dX3_runFrom_13 (by decide) (fun hc => ?_) (fun hc => ?_)
  · have h := ite_t h hc
    refine wp_sub X [2] rfl ?_
    exact hk42 _ _ _ h
  · have h := ite_f h hc
    refine wp_iload X dX3_runFrom_16 2 rfl ?_
    refine wp_iconst X dX3_runFrom_18 ic_m1 ?_
    refine wp_icmp_eq (tgt := 42) X dX3_runFrom_19 (by decide) (fun hc => ?_) (fun hc => ?_)
    · have h := ite_t h hc
      refine wp_sub X [2] rfl ?_
      exact hk42 _ _ _ h
    · have h := ite_f h hc
      refine wp_aload_n X dX3_runFrom_22 0 rfl ?_
      refine wp_iload X dX3_runFrom_23 2 rfl ?_
      refine wp_lload_n X dX3_runFrom_25 1 rfl ?_
      refine wp_iload X dX3_runFrom_26 3 rfl ?_
      refine cs_Words_signAt X dX3_runFrom_28 ml_X3_80  h (Nat.le_of_ble_eq_true rfl) (by decide) (fun r28 I28 J28 h => ?_)
      refine cv_Machine_nextKey X dX3_runFrom_31 ml_X3_84 hx0 h (Nat.le_of_ble_eq_true rfl) (by decide) (fun r31 I31 J31 h => ?_)
      refine wp_istore (L' := [(4, .int r31), (0, .ref (ad Γ x0)), (2, .long x2), (5, .int x5)]) X dX3_runFrom_34 (by decide) rfl ?_
      obtain ⟨t36, et36⟩ : ∃ y : Int32, y = x5 + (-1) := ⟨_, rfl⟩
      have h := h t36 et36
      refine wp_iinc (L' := [(5, .int t36), (4, .int r31), (0, .ref (ad Γ x0)), (2, .long x2)]) X dX3_runFrom_36 3 rfl (ii_m1 et36) (by decide) rfl ?_
      refine wp_goto (tgt := 11) X dX3_runFrom_39 (by decide) ?_
      refine wp_sub X [2, 3, 1, 0] rfl ?_
      exact ih _ _ _ _ h

set_option maxRecDepth 100000 in
set_option maxHeartbeats 4000000 in
theorem w_Machine_runFrom_b0 {Γ : Ctx} {Q : Int32 → MI → MJ → Prop} {o : Nat} {x1 : Int32} {x2 : Int64}  (X : Cx Γ cX3_runFrom 6 RX3 2) (Y : Rt Γ (Pi Q) (Option.some Jvm.ClassFile.FieldType.int)) (ho : okM o)  {I : MI} {J : MJ} (h : f_Machine_runFrom o x1 x2 I J Q) : Wp Γ 6 0 [(0, .ref (ad Γ o)), (1, .int x1), (2, .long x2)] [] I J := by
  unfold f_Machine_runFrom at h
  refine wp_iload_n X dX3_runFrom_0 1 rfl ?_
  refine wp_istore (L' := [(4, .int x1), (0, .ref (ad Γ o)), (1, .int x1), (2, .long x2)]) X dX3_runFrom_1 (by decide) rfl ?_
  refine wp_lload_n X dX3_runFrom_3 3 rfl ?_
  refine cs_Words_lengthOf X dX3_runFrom_4 ml_X3_74  h (Nat.le_of_ble_eq_true rfl) (by decide) (fun r4 I4 J4 h => ?_)
  refine wp_iconst X dX3_runFrom_7 ic_1 ?_
  refine wp_isub X dX3_runFrom_8 ?_
  refine wp_topi (fun t9 et9 => ?_)
  have h := h t9 et9
  refine wp_istore (L' := [(5, .int t9), (4, .int x1), (0, .ref (ad Γ o)), (1, .int x1), (2, .long x2)]) X dX3_runFrom_9 (by decide) rfl ?_
  obtain ⟨n, h⟩ := h
  refine wp_sub X [2, 4, 1, 0] rfl ?_
  refine w_Machine_runFrom_L11 X Y ho ?_ n _ _ _ _ h
  · intro z42_x4 I J h
    refine wp_iload X dX3_runFrom_42 0 rfl ?_
    exact wp_iret X Y dX3_runFrom_44 ⟨_, rfl, h⟩

theorem c_Machine_runFrom {l : Launch} {g : GE} (hg : Inj g) {I : MI} {J : MJ} {Q : Int32 → MI → MJ → Prop} {o : Nat} {x1 : Int32} {x2 : Int64} (ho : okM o) (h : f_Machine_runFrom o x1 x2 I J Q) : Cm l g yX3_runFrom cX3_runFrom 6 (Option.some Jvm.ClassFile.FieldType.int) 2 [.ref (g.1 o), .int x1, .long x2] I J (Pi Q) := by
  refine Cm.of (As := fun ad => [.ref (ad o), .int x1, .long x2]) hg pn_X3 (Nat.le_of_ble_eq_true rfl) ?_
  exact (fun Γ _ _ X Y => w_Machine_runFrom_b0 X Y ho h)
theorem cv_Machine_runFrom {Γ : Ctx} {cc : ByteArray} {nL d pc index : Nat} {own : String} {L : List (Nat × Value)} {rest : List Value} {I : MI} {J : MJ} {Q : Int32 → MI → MJ → Prop} {o : Nat} {x1 : Int32} {x2 : Int64} (X : Cx Γ cc nL own d) (hd : decode cc pc = .ok (.invokevirtual index, 3)) (hlink : Cond.methodLink own index yX3_runFrom ∈ TT) (ho : okM o) (h : f_Machine_runFrom o x1 x2 I J Q) (hrest : (rest.map fun v => v.category).sum ≤ 8) (hdd : 2 + 1 ≤ d) (kk : ∀ (r : Int32) (I' : MI) (J' : MJ), Q r I' J' → Wp Γ nL (pc + 3) L (.int r :: rest) I' J') : Wp Γ nL pc L (.long x2 :: .int x1 :: .ref (ad Γ o) :: rest) I J :=
  wp_callV (As := [.int x1, .long x2]) (rest := rest) (T := TX3) (N := 7) X hd hlink mv_X3_runFrom ho.1 (by decide) rfl (c_Machine_runFrom X.inj ho h) rfl rfl hrest hdd (fun v I' J' hv => by obtain ⟨r, rfl, hq⟩ := hv; exact kk r I' J' hq)
theorem dX3_answerAt_0 : decode cX3_answerAt 0 = .ok (.iload_n 1, 1) := by decide +kernel
theorem dX3_answerAt_1 : decode cX3_answerAt 1 = .ok (.ifCond .lt 24, 3) := by decide +kernel
theorem dX3_answerAt_4 : decode cX3_answerAt 4 = .ok (.iload_n 1, 1) := by decide +kernel
theorem dX3_answerAt_5 : decode cX3_answerAt 5 = .ok (.iconst 4, 1) := by decide +kernel
theorem dX3_answerAt_6 : decode cX3_answerAt 6 = .ok (.idiv, 1) := by decide +kernel
theorem dX3_answerAt_7 : decode cX3_answerAt 7 = .ok (.aload_n 0, 1) := by decide +kernel
theorem dX3_answerAt_8 : decode cX3_answerAt 8 = .ok (.getfield 28, 3) := by decide +kernel
theorem dX3_answerAt_11 : decode cX3_answerAt 11 = .ok (.if_icmp .ge 14, 3) := by decide +kernel
theorem dX3_answerAt_14 : decode cX3_answerAt 14 = .ok (.aload_n 0, 1) := by decide +kernel
theorem dX3_answerAt_15 : decode cX3_answerAt 15 = .ok (.getfield 21, 3) := by decide +kernel
theorem dX3_answerAt_18 : decode cX3_answerAt 18 = .ok (.iload_n 1, 1) := by decide +kernel
theorem dX3_answerAt_19 : decode cX3_answerAt 19 = .ok (.iconst 4, 1) := by decide +kernel
theorem dX3_answerAt_20 : decode cX3_answerAt 20 = .ok (.idiv, 1) := by decide +kernel
theorem dX3_answerAt_21 : decode cX3_answerAt 21 = .ok (.iaload, 1) := by decide +kernel
theorem dX3_answerAt_22 : decode cX3_answerAt 22 = .ok (.goto 5, 3) := by decide +kernel
theorem dX3_answerAt_25 : decode cX3_answerAt 25 = .ok (.bipush 8, 2) := by decide +kernel
theorem dX3_answerAt_27 : decode cX3_answerAt 27 = .ok (.ireturn, 1) := by decide +kernel
def f_Machine_answerAt (o : Nat) (x1 : Int32) (I : MI) (J : MJ) (Q : Int32 → MI → MJ → Prop) : Prop :=
  (if x1 < 0 then Q 8 I J else (if (I o 1) ≤ (x1 / 4) then Q 8 I J else vp_in (x1 / 4) 14 ∧ Q (I (o + 4) (x1 / 4).toNatClampNeg) I J))
set_option maxRecDepth 100000 in
set_option maxHeartbeats 4000000 in
theorem w_Machine_answerAt_b0 {Γ : Ctx} {Q : Int32 → MI → MJ → Prop} {o : Nat} {x1 : Int32}  (X : Cx Γ cX3_answerAt 2 RX3 0) (Y : Rt Γ (Pi Q) (Option.some Jvm.ClassFile.FieldType.int)) (ho : okM o)  {I : MI} {J : MJ} (h : f_Machine_answerAt o x1 I J Q) : Wp Γ 2 0 [(0, .ref (ad Γ o)), (1, .int x1)] [] I J := by
  unfold f_Machine_answerAt at h
  refine wp_iload_n X dX3_answerAt_0 1 rfl ?_
  refine wp_if_lt (tgt := 25) X dX3_answerAt_1 (by decide) (fun hc => ?_) (fun hc => ?_)
  · have h := ite_t h hc
    refine wp_bipush X dX3_answerAt_25 bi_8 ?_
    exact wp_iret X Y dX3_answerAt_27 ⟨_, rfl, h⟩
  · have h := ite_f h hc
    refine wp_iload_n X dX3_answerAt_4 1 rfl ?_
    refine wp_iconst X dX3_answerAt_5 ic_4 ?_
    refine wp_idiv X dX3_answerAt_6 (by decide) ?_
    refine wp_aload_n X dX3_answerAt_7 0 rfl ?_
    refine gf_X3_28 X ho.1 dX3_answerAt_8 ?_
    refine wp_icmp_ge (tgt := 25) X dX3_answerAt_11 (by decide) (fun hc => ?_) (fun hc => ?_)
    · have h := ite_t h hc
      refine wp_bipush X dX3_answerAt_25 bi_8 ?_
      exact wp_iret X Y dX3_answerAt_27 ⟨_, rfl, h⟩
    · have h := ite_f h hc
      refine wp_aload_n X dX3_answerAt_14 0 rfl ?_
      refine gf_X3_21 (o' := o + 4) X ho.1 rfl dX3_answerAt_15 ?_
      refine wp_iload_n X dX3_answerAt_18 1 rfl ?_
      refine wp_iconst X dX3_answerAt_19 ic_4 ?_
      refine wp_idiv X dX3_answerAt_20 (by decide) ?_
      obtain ⟨hb21, h⟩ := h
      refine wp_iald X ho.2.2.2.2 hb21 dX3_answerAt_21 ?_
      refine wp_goto (tgt := 27) X dX3_answerAt_22 (by decide) ?_
      exact wp_iret X Y dX3_answerAt_27 ⟨_, rfl, h⟩

theorem c_Machine_answerAt {l : Launch} {g : GE} (hg : Inj g) {I : MI} {J : MJ} {Q : Int32 → MI → MJ → Prop} {o : Nat} {x1 : Int32} (ho : okM o) (h : f_Machine_answerAt o x1 I J Q) : Cm l g yX3_answerAt cX3_answerAt 2 (Option.some Jvm.ClassFile.FieldType.int) 0 [.ref (g.1 o), .int x1] I J (Pi Q) := by
  refine Cm.of (As := fun ad => [.ref (ad o), .int x1]) hg pn_X3 (Nat.le_of_ble_eq_true rfl) ?_
  exact (fun Γ _ _ X Y => w_Machine_answerAt_b0 X Y ho h)
theorem cu_Machine_answerAt {Γ : Ctx} {cc : ByteArray} {nL d pc index : Nat} {own : String} {L : List (Nat × Value)} {rest : List Value} {I : MI} {J : MJ} {Q : Int32 → MI → MJ → Prop} {o : Nat} {x1 : Int32} (X : Cx Γ cc nL own d) (hd : decode cc pc = .ok (.invokevirtual index, 3)) (hlink : Cond.methodLink own index ⟨RX8, "answerAt", "(I)I"⟩ ∈ TT) (ho : okM o) (h : f_Machine_answerAt o x1 I J Q) (hrest : (rest.map fun v => v.category).sum ≤ 8) (hdd : 0 + 1 ≤ d) (kk : ∀ (r : Int32) (I' : MI) (J' : MJ), Q r I' J' → Wp Γ nL (pc + 3) L (.int r :: rest) I' J') : Wp Γ nL pc L (.int x1 :: .ref (ad Γ o) :: rest) I J :=
  wp_callU (x := ⟨RX8, "answerAt", "(I)I"⟩) (n := 1) (As := [.int x1]) (rest := rest) (T := TX3) (N := 7) X hd hlink rfl (fun g U h => h.2.2.2) (TT_at 740 (by decide +kernel) rfl) (TT_at 748 (by decide +kernel) rfl) (TT_at 640 (by decide +kernel) rfl) (TT_at 112 (by decide +kernel) rfl) (TT_at 642 (by decide +kernel) rfl) (by decide +kernel) (by decide) ho.1 (by decide) rfl (c_Machine_answerAt X.inj ho h) rfl rfl hrest hdd (fun v I' J' hv => by obtain ⟨r, rfl, hq⟩ := hv; exact kk r I' J' hq)
theorem cv_Machine_answerAt {Γ : Ctx} {cc : ByteArray} {nL d pc index : Nat} {own : String} {L : List (Nat × Value)} {rest : List Value} {I : MI} {J : MJ} {Q : Int32 → MI → MJ → Prop} {o : Nat} {x1 : Int32} (X : Cx Γ cc nL own d) (hd : decode cc pc = .ok (.invokevirtual index, 3)) (hlink : Cond.methodLink own index yX3_answerAt ∈ TT) (ho : okM o) (h : f_Machine_answerAt o x1 I J Q) (hrest : (rest.map fun v => v.category).sum ≤ 8) (hdd : 0 + 1 ≤ d) (kk : ∀ (r : Int32) (I' : MI) (J' : MJ), Q r I' J' → Wp Γ nL (pc + 3) L (.int r :: rest) I' J') : Wp Γ nL pc L (.int x1 :: .ref (ad Γ o) :: rest) I J :=
  wp_callV (As := [.int x1]) (rest := rest) (T := TX3) (N := 7) X hd hlink mv_X3_answerAt ho.1 (by decide) rfl (c_Machine_answerAt X.inj ho h) rfl rfl hrest hdd (fun v I' J' hv => by obtain ⟨r, rfl, hq⟩ := hv; exact kk r I' J' hq)
theorem dX3_answerTo_0 : decode cX3_answerTo 0 = .ok (.aload_n 0, 1) := by decide +kernel
theorem dX3_answerTo_1 : decode cX3_answerTo 1 = .ok (.aload_n 0, 1) := by decide +kernel
theorem dX3_answerTo_2 : decode cX3_answerTo 2 = .ok (.iconst 0, 1) := by decide +kernel
theorem dX3_answerTo_3 : decode cX3_answerTo 3 = .ok (.lload_n 1, 1) := by decide +kernel
theorem dX3_answerTo_4 : decode cX3_answerTo 4 = .ok (.invokevirtual 87, 3) := by decide +kernel
theorem dX3_answerTo_7 : decode cX3_answerTo 7 = .ok (.invokevirtual 91, 3) := by decide +kernel
theorem dX3_answerTo_10 : decode cX3_answerTo 10 = .ok (.ireturn, 1) := by decide +kernel
def f_Machine_answerTo (o : Nat) (x1 : Int64) (I : MI) (J : MJ) (Q : Int32 → MI → MJ → Prop) : Prop :=
  f_Machine_runFrom o (0 : Int32) x1 I J (fun r4 I4 J4 => f_Machine_answerAt o r4 I4 J4 (fun r7 I7 J7 => Q r7 I7 J7))
set_option maxRecDepth 100000 in
set_option maxHeartbeats 4000000 in
theorem w_Machine_answerTo_b0 {Γ : Ctx} {Q : Int32 → MI → MJ → Prop} {o : Nat} {x1 : Int64}  (X : Cx Γ cX3_answerTo 3 RX3 3) (Y : Rt Γ (Pi Q) (Option.some Jvm.ClassFile.FieldType.int)) (ho : okM o)  {I : MI} {J : MJ} (h : f_Machine_answerTo o x1 I J Q) : Wp Γ 3 0 [(0, .ref (ad Γ o)), (1, .long x1)] [] I J := by
  unfold f_Machine_answerTo at h
  refine wp_aload_n X dX3_answerTo_0 0 rfl ?_
  refine wp_aload_n X dX3_answerTo_1 0 rfl ?_
  refine wp_iconst X dX3_answerTo_2 ic_0 ?_
  refine wp_lload_n X dX3_answerTo_3 1 rfl ?_
  refine cv_Machine_runFrom X dX3_answerTo_4 ml_X3_87 ho h (Nat.le_of_ble_eq_true rfl) (by decide) (fun r4 I4 J4 h => ?_)
  refine cv_Machine_answerAt X dX3_answerTo_7 ml_X3_91 ho h (Nat.le_of_ble_eq_true rfl) (by decide) (fun r7 I7 J7 h => ?_)
  exact wp_iret X Y dX3_answerTo_10 ⟨_, rfl, h⟩

theorem c_Machine_answerTo {l : Launch} {g : GE} (hg : Inj g) {I : MI} {J : MJ} {Q : Int32 → MI → MJ → Prop} {o : Nat} {x1 : Int64} (ho : okM o) (h : f_Machine_answerTo o x1 I J Q) : Cm l g yX3_answerTo cX3_answerTo 3 (Option.some Jvm.ClassFile.FieldType.int) 3 [.ref (g.1 o), .long x1] I J (Pi Q) := by
  refine Cm.of (As := fun ad => [.ref (ad o), .long x1]) hg pn_X3 (Nat.le_of_ble_eq_true rfl) ?_
  exact (fun Γ _ _ X Y => w_Machine_answerTo_b0 X Y ho h)
theorem cv_Machine_answerTo {Γ : Ctx} {cc : ByteArray} {nL d pc index : Nat} {own : String} {L : List (Nat × Value)} {rest : List Value} {I : MI} {J : MJ} {Q : Int32 → MI → MJ → Prop} {o : Nat} {x1 : Int64} (X : Cx Γ cc nL own d) (hd : decode cc pc = .ok (.invokevirtual index, 3)) (hlink : Cond.methodLink own index yX3_answerTo ∈ TT) (ho : okM o) (h : f_Machine_answerTo o x1 I J Q) (hrest : (rest.map fun v => v.category).sum ≤ 8) (hdd : 3 + 1 ≤ d) (kk : ∀ (r : Int32) (I' : MI) (J' : MJ), Q r I' J' → Wp Γ nL (pc + 3) L (.int r :: rest) I' J') : Wp Γ nL pc L (.long x1 :: .ref (ad Γ o) :: rest) I J :=
  wp_callV (As := [.long x1]) (rest := rest) (T := TX3) (N := 7) X hd hlink mv_X3_answerTo ho.1 (by decide) rfl (c_Machine_answerTo X.inj ho h) rfl rfl hrest hdd (fun v I' J' hv => by obtain ⟨r, rfl, hq⟩ := hv; exact kk r I' J' hq)
theorem dX4_answerTo_0 : decode cX4_answerTo 0 = .ok (.aload_n 0, 1) := by decide +kernel
theorem dX4_answerTo_1 : decode cX4_answerTo 1 = .ok (.getfield 9, 3) := by decide +kernel
theorem dX4_answerTo_4 : decode cX4_answerTo 4 = .ok (.bipush 6, 2) := by decide +kernel
theorem dX4_answerTo_6 : decode cX4_answerTo 6 = .ok (.if_icmp .ne 15, 3) := by decide +kernel
theorem dX4_answerTo_9 : decode cX4_answerTo 9 = .ok (.aload_n 0, 1) := by decide +kernel
theorem dX4_answerTo_10 : decode cX4_answerTo 10 = .ok (.lload_n 1, 1) := by decide +kernel
theorem dX4_answerTo_11 : decode cX4_answerTo 11 = .ok (.invokevirtual 39, 3) := by decide +kernel
theorem dX4_answerTo_14 : decode cX4_answerTo 14 = .ok (.ifCond .eq 7, 3) := by decide +kernel
theorem dX4_answerTo_17 : decode cX4_answerTo 17 = .ok (.iconst 1, 1) := by decide +kernel
theorem dX4_answerTo_18 : decode cX4_answerTo 18 = .ok (.goto 4, 3) := by decide +kernel
theorem dX4_answerTo_21 : decode cX4_answerTo 21 = .ok (.iconst 0, 1) := by decide +kernel
theorem dX4_answerTo_22 : decode cX4_answerTo 22 = .ok (.istore_n 3, 1) := by decide +kernel
theorem dX4_answerTo_23 : decode cX4_answerTo 23 = .ok (.iload_n 3, 1) := by decide +kernel
theorem dX4_answerTo_24 : decode cX4_answerTo 24 = .ok (.ifCond .eq 8, 3) := by decide +kernel
theorem dX4_answerTo_27 : decode cX4_answerTo 27 = .ok (.bipush 9, 2) := by decide +kernel
theorem dX4_answerTo_29 : decode cX4_answerTo 29 = .ok (.goto 11, 3) := by decide +kernel
theorem dX4_answerTo_32 : decode cX4_answerTo 32 = .ok (.aload_n 0, 1) := by decide +kernel
theorem dX4_answerTo_33 : decode cX4_answerTo 33 = .ok (.getfield 18, 3) := by decide +kernel
theorem dX4_answerTo_36 : decode cX4_answerTo 36 = .ok (.lload_n 1, 1) := by decide +kernel
theorem dX4_answerTo_37 : decode cX4_answerTo 37 = .ok (.invokevirtual 43, 3) := by decide +kernel
theorem dX4_answerTo_40 : decode cX4_answerTo 40 = .ok (.ireturn, 1) := by decide +kernel
def f_Place_answerTo_b22 (x0 : Nat) (x1 : Int64) (s0 : Int32) (Q : Int32 → MI → MJ → Prop) (I : MI) (J : MJ) : Prop :=
  (if s0 = 0 then f_Machine_answerTo (x0 + 1) x1 I J (fun r37 I37 J37 => Q r37 I37 J37) else Q 9 I J)
def f_Place_answerTo_b21 (x0 : Nat) (x1 : Int64) (Q : Int32 → MI → MJ → Prop) (I : MI) (J : MJ) : Prop :=
  f_Place_answerTo_b22 x0 x1 0 Q I J
def f_Place_answerTo (o : Nat) (x1 : Int64) (I : MI) (J : MJ) (Q : Int32 → MI → MJ → Prop) : Prop :=
  (if (I o 0) = 6 then f_Place_hasForgotten o x1 I J (fun r11 I11 J11 => (if r11 = 0 then f_Place_answerTo_b21 o x1 Q I11 J11 else f_Place_answerTo_b22 o x1 1 Q I11 J11)) else f_Place_answerTo_b21 o x1 Q I J)
set_option maxRecDepth 100000 in
set_option maxHeartbeats 4000000 in
theorem w_Place_answerTo_b22 {Γ : Ctx} {Q : Int32 → MI → MJ → Prop} {x0 : Nat} {x1 : Int64} {s0 : Int32}  (X : Cx Γ cX4_answerTo 4 RX4 4) (Y : Rt Γ (Pi Q) (Option.some Jvm.ClassFile.FieldType.int)) (hx0 : okP x0)  {I : MI} {J : MJ} (h : f_Place_answerTo_b22 x0 x1 s0 Q I J) : Wp Γ 4 22 [(0, .ref (ad Γ x0)), (1, .long x1)] [.int s0] I J := by
  unfold f_Place_answerTo_b22 at h
  refine wp_istore_n (L' := [(3, .int s0), (0, .ref (ad Γ x0)), (1, .long x1)]) X dX4_answerTo_22 rfl (by decide) rfl ?_
  refine wp_iload_n X dX4_answerTo_23 0 rfl ?_
  refine wp_if_eq (tgt := 32) X dX4_answerTo_24 (by decide) (fun hc => ?_) (fun hc => ?_)
  · have h := ite_t h hc
    refine wp_aload_n X dX4_answerTo_32 1 rfl ?_
    refine gf_X4_18 (o' := x0 + 1) X hx0.1 rfl dX4_answerTo_33 ?_
    refine wp_lload_n X dX4_answerTo_36 2 rfl ?_
    refine cv_Machine_answerTo X dX4_answerTo_37 ml_X4_43 hx0.2.1 h (Nat.le_of_ble_eq_true rfl) (by decide) (fun r37 I37 J37 h => ?_)
    exact wp_iret X Y dX4_answerTo_40 ⟨_, rfl, h⟩
  · have h := ite_f h hc
    refine wp_bipush X dX4_answerTo_27 bi_9 ?_
    refine wp_goto (tgt := 40) X dX4_answerTo_29 (by decide) ?_
    exact wp_iret X Y dX4_answerTo_40 ⟨_, rfl, h⟩

set_option maxRecDepth 100000 in
set_option maxHeartbeats 4000000 in
theorem w_Place_answerTo_b21 {Γ : Ctx} {Q : Int32 → MI → MJ → Prop} {x0 : Nat} {x1 : Int64}  (X : Cx Γ cX4_answerTo 4 RX4 4) (Y : Rt Γ (Pi Q) (Option.some Jvm.ClassFile.FieldType.int)) (hx0 : okP x0)  {I : MI} {J : MJ} (h : f_Place_answerTo_b21 x0 x1 Q I J) : Wp Γ 4 21 [(0, .ref (ad Γ x0)), (1, .long x1)] [] I J := by
  unfold f_Place_answerTo_b21 at h
  refine wp_iconst X dX4_answerTo_21 ic_0 ?_
  exact w_Place_answerTo_b22 X Y hx0 h

set_option maxRecDepth 100000 in
set_option maxHeartbeats 4000000 in
theorem w_Place_answerTo_b0 {Γ : Ctx} {Q : Int32 → MI → MJ → Prop} {o : Nat} {x1 : Int64}  (X : Cx Γ cX4_answerTo 4 RX4 4) (Y : Rt Γ (Pi Q) (Option.some Jvm.ClassFile.FieldType.int)) (ho : okP o)  {I : MI} {J : MJ} (h : f_Place_answerTo o x1 I J Q) : Wp Γ 4 0 [(0, .ref (ad Γ o)), (1, .long x1)] [] I J := by
  unfold f_Place_answerTo at h
  refine wp_aload_n X dX4_answerTo_0 0 rfl ?_
  refine gf_X4_9 X ho.1 dX4_answerTo_1 ?_
  refine wp_bipush X dX4_answerTo_4 bi_6 ?_
  refine wp_icmp_ne (tgt := 21) X dX4_answerTo_6 (by decide) (fun hc => ?_) (fun hc => ?_)
  · have h := ite_f h hc
    exact w_Place_answerTo_b21 X Y ho h
  · have h := ite_t h hc
    refine wp_aload_n X dX4_answerTo_9 0 rfl ?_
    refine wp_lload_n X dX4_answerTo_10 1 rfl ?_
    refine cv_Place_hasForgotten X dX4_answerTo_11 ml_X4_39 ho h (Nat.le_of_ble_eq_true rfl) (by decide) (fun r11 I11 J11 h => ?_)
    refine wp_if_eq (tgt := 21) X dX4_answerTo_14 (by decide) (fun hc => ?_) (fun hc => ?_)
    · have h := ite_t h hc
      exact w_Place_answerTo_b21 X Y ho h
    · have h := ite_f h hc
      refine wp_iconst X dX4_answerTo_17 ic_1 ?_
      refine wp_goto (tgt := 22) X dX4_answerTo_18 (by decide) ?_
      exact w_Place_answerTo_b22 X Y ho h

theorem c_Place_answerTo {l : Launch} {g : GE} (hg : Inj g) {I : MI} {J : MJ} {Q : Int32 → MI → MJ → Prop} {o : Nat} {x1 : Int64} (ho : okP o) (h : f_Place_answerTo o x1 I J Q) : Cm l g yX4_answerTo cX4_answerTo 4 (Option.some Jvm.ClassFile.FieldType.int) 4 [.ref (g.1 o), .long x1] I J (Pi Q) := by
  refine Cm.of (As := fun ad => [.ref (ad o), .long x1]) hg pn_X4 (Nat.le_of_ble_eq_true rfl) ?_
  exact (fun Γ _ _ X Y => w_Place_answerTo_b0 X Y ho h)
theorem cv_Place_answerTo {Γ : Ctx} {cc : ByteArray} {nL d pc index : Nat} {own : String} {L : List (Nat × Value)} {rest : List Value} {I : MI} {J : MJ} {Q : Int32 → MI → MJ → Prop} {o : Nat} {x1 : Int64} (X : Cx Γ cc nL own d) (hd : decode cc pc = .ok (.invokevirtual index, 3)) (hlink : Cond.methodLink own index yX4_answerTo ∈ TT) (ho : okP o) (h : f_Place_answerTo o x1 I J Q) (hrest : (rest.map fun v => v.category).sum ≤ 8) (hdd : 4 + 1 ≤ d) (kk : ∀ (r : Int32) (I' : MI) (J' : MJ), Q r I' J' → Wp Γ nL (pc + 3) L (.int r :: rest) I' J') : Wp Γ nL pc L (.long x1 :: .ref (ad Γ o) :: rest) I J :=
  wp_callV (As := [.long x1]) (rest := rest) (T := TX4) (N := 7) X hd hlink mv_X4_answerTo ho.1 (by decide) rfl (c_Place_answerTo X.inj ho h) rfl rfl hrest hdd (fun v I' J' hv => by obtain ⟨r, rfl, hq⟩ := hv; exact kk r I' J' hq)
theorem dX10_answer_0 : decode cX10_answer 0 = .ok (.aload_n 0, 1) := by decide +kernel
theorem dX10_answer_1 : decode cX10_answer 1 = .ok (.iload_n 1, 1) := by decide +kernel
theorem dX10_answer_2 : decode cX10_answer 2 = .ok (.invokevirtual 147, 3) := by decide +kernel
theorem dX10_answer_5 : decode cX10_answer 5 = .ok (.ifCond .ne 10, 3) := by decide +kernel
theorem dX10_answer_8 : decode cX10_answer 8 = .ok (.lload_n 2, 1) := by decide +kernel
theorem dX10_answer_9 : decode cX10_answer 9 = .ok (.invokestatic 170, 3) := by decide +kernel
theorem dX10_answer_12 : decode cX10_answer 12 = .ok (.ifCond .ne 5, 3) := by decide +kernel
theorem dX10_answer_15 : decode cX10_answer 15 = .ok (.iconst (-1), 1) := by decide +kernel
theorem dX10_answer_16 : decode cX10_answer 16 = .ok (.ireturn, 1) := by decide +kernel
theorem dX10_answer_17 : decode cX10_answer 17 = .ok (.aload_n 0, 1) := by decide +kernel
theorem dX10_answer_18 : decode cX10_answer 18 = .ok (.getfield 11, 3) := by decide +kernel
theorem dX10_answer_21 : decode cX10_answer 21 = .ok (.iload_n 1, 1) := by decide +kernel
theorem dX10_answer_22 : decode cX10_answer 22 = .ok (.aaload, 1) := by decide +kernel
theorem dX10_answer_23 : decode cX10_answer 23 = .ok (.lload_n 2, 1) := by decide +kernel
theorem dX10_answer_24 : decode cX10_answer 24 = .ok (.invokevirtual 176, 3) := by decide +kernel
theorem dX10_answer_27 : decode cX10_answer 27 = .ok (.ireturn, 1) := by decide +kernel
def f_School_answer (x1 : Int32) (x2 : Int64) (I : MI) (J : MJ) (Q : Int32 → MI → MJ → Prop) : Prop :=
  f_School_thingFault x1 I J (fun r2 I2 J2 => (if r2 = 0 then f_Words_isWord x2 I2 J2 (fun r9 I9 J9 => (if r9 = 0 then Q (-1) I9 J9 else vp_in x1 16 ∧ f_Place_answerTo (1 + 64 + 7 * x1.toNatClampNeg) x2 I9 J9 (fun r24 I24 J24 => Q r24 I24 J24))) else Q (-1) I2 J2))
set_option maxRecDepth 100000 in
set_option maxHeartbeats 4000000 in
theorem w_School_answer_b0 {Γ : Ctx} {Q : Int32 → MI → MJ → Prop} {x1 : Int32} {x2 : Int64}  (X : Cx Γ cX10_answer 4 RX10 5) (Y : Rt Γ (Pi Q) (Option.some Jvm.ClassFile.FieldType.int))   {I : MI} {J : MJ} (h : f_School_answer x1 x2 I J Q) : Wp Γ 4 0 [(0, .ref (ad Γ 0)), (1, .int x1), (2, .long x2)] [] I J := by
  unfold f_School_answer at h
  refine wp_aload_n X dX10_answer_0 0 rfl ?_
  refine wp_iload_n X dX10_answer_1 1 rfl ?_
  refine cv_School_thingFault X dX10_answer_2 ml_X10_147  h (Nat.le_of_ble_eq_true rfl) (by decide) (fun r2 I2 J2 h => ?_)
  refine wp_if_ne (tgt := 15) X dX10_answer_5 (by decide) (fun hc => ?_) (fun hc => ?_)
  · have h := ite_f h hc
    refine wp_iconst X dX10_answer_15 ic_m1 ?_
    exact wp_iret X Y dX10_answer_16 ⟨_, rfl, h⟩
  · have h := ite_t h hc
    refine wp_lload_n X dX10_answer_8 2 rfl ?_
    refine cs_Words_isWord X dX10_answer_9 ml_X10_170  h (Nat.le_of_ble_eq_true rfl) (by decide) (fun r9 I9 J9 h => ?_)
    refine wp_if_ne (tgt := 17) X dX10_answer_12 (by decide) (fun hc => ?_) (fun hc => ?_)
    · have h := ite_f h hc
      refine wp_aload_n X dX10_answer_17 0 rfl ?_
      refine gf_X10_11 (o' := 1) X sh_0 rfl dX10_answer_18 ?_
      refine wp_iload_n X dX10_answer_21 1 rfl ?_
      obtain ⟨hb22, h⟩ := h
      refine wp_aald X sh_1 hb22 dX10_answer_22 ?_
      refine wp_lload_n X dX10_answer_23 2 rfl ?_
      refine cv_Place_answerTo X dX10_answer_24 ml_X10_176 (okP_at hb22) h (Nat.le_of_ble_eq_true rfl) (by decide) (fun r24 I24 J24 h => ?_)
      exact wp_iret X Y dX10_answer_27 ⟨_, rfl, h⟩
    · have h := ite_t h hc
      refine wp_iconst X dX10_answer_15 ic_m1 ?_
      exact wp_iret X Y dX10_answer_16 ⟨_, rfl, h⟩

theorem c_School_answer {l : Launch} {g : GE} (hg : Inj g) {I : MI} {J : MJ} {Q : Int32 → MI → MJ → Prop} {x1 : Int32} {x2 : Int64}  (h : f_School_answer x1 x2 I J Q) : Cm l g yX10_answer cX10_answer 4 (Option.some Jvm.ClassFile.FieldType.int) 5 [.ref (g.1 0), .int x1, .long x2] I J (Pi Q) := by
  refine Cm.of (As := fun ad => [.ref (ad 0), .int x1, .long x2]) hg pn_X10 (Nat.le_of_ble_eq_true rfl) ?_
  exact (fun Γ _ _ X Y => w_School_answer_b0 X Y  h)
theorem cv_School_answer {Γ : Ctx} {cc : ByteArray} {nL d pc index : Nat} {own : String} {L : List (Nat × Value)} {rest : List Value} {I : MI} {J : MJ} {Q : Int32 → MI → MJ → Prop} {x1 : Int32} {x2 : Int64} (X : Cx Γ cc nL own d) (hd : decode cc pc = .ok (.invokevirtual index, 3)) (hlink : Cond.methodLink own index yX10_answer ∈ TT)  (h : f_School_answer x1 x2 I J Q) (hrest : (rest.map fun v => v.category).sum ≤ 8) (hdd : 5 + 1 ≤ d) (kk : ∀ (r : Int32) (I' : MI) (J' : MJ), Q r I' J' → Wp Γ nL (pc + 3) L (.int r :: rest) I' J') : Wp Γ nL pc L (.long x2 :: .int x1 :: .ref (ad Γ 0) :: rest) I J :=
  wp_callV (As := [.int x1, .long x2]) (rest := rest) (T := TX10) (N := 9) X hd hlink mv_X10_answer sh_0 (by decide) rfl (c_School_answer X.inj  h) rfl rfl hrest hdd (fun v I' J' hv => by obtain ⟨r, rfl, hq⟩ := hv; exact kk r I' J' hq)
theorem dX10_isAnswer_0 : decode cX10_isAnswer 0 = .ok (.iload_n 0, 1) := by decide +kernel
theorem dX10_isAnswer_1 : decode cX10_isAnswer 1 = .ok (.ifCond .lt 13, 3) := by decide +kernel
theorem dX10_isAnswer_4 : decode cX10_isAnswer 4 = .ok (.iload_n 0, 1) := by decide +kernel
theorem dX10_isAnswer_5 : decode cX10_isAnswer 5 = .ok (.bipush 8, 2) := by decide +kernel
theorem dX10_isAnswer_7 : decode cX10_isAnswer 7 = .ok (.if_icmp .ge 7, 3) := by decide +kernel
theorem dX10_isAnswer_10 : decode cX10_isAnswer 10 = .ok (.iconst 1, 1) := by decide +kernel
theorem dX10_isAnswer_11 : decode cX10_isAnswer 11 = .ok (.goto 4, 3) := by decide +kernel
theorem dX10_isAnswer_14 : decode cX10_isAnswer 14 = .ok (.iconst 0, 1) := by decide +kernel
theorem dX10_isAnswer_15 : decode cX10_isAnswer 15 = .ok (.ireturn, 1) := by decide +kernel
def f_School_isAnswer (x0 : Int32) (I : MI) (J : MJ) (Q : Int32 → MI → MJ → Prop) : Prop :=
  (if x0 < 0 then Q 0 I J else (if 8 ≤ x0 then Q 0 I J else Q 1 I J))
set_option maxRecDepth 100000 in
set_option maxHeartbeats 4000000 in
theorem w_School_isAnswer_b0 {Γ : Ctx} {Q : Int32 → MI → MJ → Prop} {x0 : Int32}  (X : Cx Γ cX10_isAnswer 1 RX10 0) (Y : Rt Γ (Pi Q) (Option.some Jvm.ClassFile.FieldType.boolean))   {I : MI} {J : MJ} (h : f_School_isAnswer x0 I J Q) : Wp Γ 1 0 [(0, .int x0)] [] I J := by
  unfold f_School_isAnswer at h
  refine wp_iload_n X dX10_isAnswer_0 0 rfl ?_
  refine wp_if_lt (tgt := 14) X dX10_isAnswer_1 (by decide) (fun hc => ?_) (fun hc => ?_)
  · have h := ite_t h hc
    refine wp_iconst X dX10_isAnswer_14 ic_0 ?_
    exact wp_zret X Y dX10_isAnswer_15 (by decide) ⟨_, rfl, h⟩
  · have h := ite_f h hc
    refine wp_iload_n X dX10_isAnswer_4 0 rfl ?_
    refine wp_bipush X dX10_isAnswer_5 bi_8 ?_
    refine wp_icmp_ge (tgt := 14) X dX10_isAnswer_7 (by decide) (fun hc => ?_) (fun hc => ?_)
    · have h := ite_t h hc
      refine wp_iconst X dX10_isAnswer_14 ic_0 ?_
      exact wp_zret X Y dX10_isAnswer_15 (by decide) ⟨_, rfl, h⟩
    · have h := ite_f h hc
      refine wp_iconst X dX10_isAnswer_10 ic_1 ?_
      refine wp_goto (tgt := 15) X dX10_isAnswer_11 (by decide) ?_
      exact wp_zret X Y dX10_isAnswer_15 (by decide) ⟨_, rfl, h⟩

theorem c_School_isAnswer {l : Launch} {g : GE} (hg : Inj g) {I : MI} {J : MJ} {Q : Int32 → MI → MJ → Prop} {x0 : Int32}  (h : f_School_isAnswer x0 I J Q) : Cm l g yX10_isAnswer cX10_isAnswer 1 (Option.some Jvm.ClassFile.FieldType.boolean) 0 [.int x0] I J (Pi Q) := by
  refine Cm.of (As := fun ad => [.int x0]) hg pn_X10 (Nat.le_of_ble_eq_true rfl) ?_
  exact (fun Γ _ _ X Y => w_School_isAnswer_b0 X Y  h)
theorem cs_School_isAnswer {Γ : Ctx} {cc : ByteArray} {nL d pc index : Nat} {own : String} {L : List (Nat × Value)} {rest : List Value} {I : MI} {J : MJ} {Q : Int32 → MI → MJ → Prop} {x0 : Int32} (X : Cx Γ cc nL own d) (hd : decode cc pc = .ok (.invokestatic index, 3)) (hlink : Cond.methodLink own index yX10_isAnswer ∈ TT)  (h : f_School_isAnswer x0 I J Q) (hrest : (rest.map fun v => v.category).sum ≤ 8) (hdd : 0 + 1 ≤ d) (kk : ∀ (r : Int32) (I' : MI) (J' : MJ), Q r I' J' → Wp Γ nL (pc + 3) L (.int r :: rest) I' J') : Wp Γ nL pc L (.int x0 :: rest) I J :=
  wp_callS (As := [.int x0]) (rest := rest) X hd hlink mv_X10_isAnswer (c_School_isAnswer X.inj  h) rfl rfl hrest hdd (fun v I' J' hv => by obtain ⟨r, rfl, hq⟩ := hv; exact kk r I' J' hq)
theorem dX3_spotStep_0 : decode cX3_spotStep 0 = .ok (.aload_n 0, 1) := by decide +kernel
theorem dX3_spotStep_1 : decode cX3_spotStep 1 = .ok (.getfield 24, 3) := by decide +kernel
theorem dX3_spotStep_4 : decode cX3_spotStep 4 = .ok (.iconst 3, 1) := by decide +kernel
theorem dX3_spotStep_5 : decode cX3_spotStep 5 = .ok (.if_icmp .ne 7, 3) := by decide +kernel
theorem dX3_spotStep_8 : decode cX3_spotStep 8 = .ok (.iconst 1, 1) := by decide +kernel
theorem dX3_spotStep_9 : decode cX3_spotStep 9 = .ok (.goto 4, 3) := by decide +kernel
theorem dX3_spotStep_12 : decode cX3_spotStep 12 = .ok (.iconst 4, 1) := by decide +kernel
theorem dX3_spotStep_13 : decode cX3_spotStep 13 = .ok (.ireturn, 1) := by decide +kernel
def f_Machine_spotStep (o : Nat) (I : MI) (J : MJ) (Q : Int32 → MI → MJ → Prop) : Prop :=
  (if (I o 0) = 3 then Q 1 I J else Q 4 I J)
set_option maxRecDepth 100000 in
set_option maxHeartbeats 4000000 in
theorem w_Machine_spotStep_b0 {Γ : Ctx} {Q : Int32 → MI → MJ → Prop} {o : Nat}  (X : Cx Γ cX3_spotStep 1 RX3 0) (Y : Rt Γ (Pi Q) (Option.some Jvm.ClassFile.FieldType.int)) (ho : okM o)  {I : MI} {J : MJ} (h : f_Machine_spotStep o I J Q) : Wp Γ 1 0 [(0, .ref (ad Γ o))] [] I J := by
  unfold f_Machine_spotStep at h
  refine wp_aload_n X dX3_spotStep_0 0 rfl ?_
  refine gf_X3_24 X ho.1 dX3_spotStep_1 ?_
  refine wp_iconst X dX3_spotStep_4 ic_3 ?_
  refine wp_icmp_ne (tgt := 12) X dX3_spotStep_5 (by decide) (fun hc => ?_) (fun hc => ?_)
  · have h := ite_f h hc
    refine wp_iconst X dX3_spotStep_12 ic_4 ?_
    exact wp_iret X Y dX3_spotStep_13 ⟨_, rfl, h⟩
  · have h := ite_t h hc
    refine wp_iconst X dX3_spotStep_8 ic_1 ?_
    refine wp_goto (tgt := 13) X dX3_spotStep_9 (by decide) ?_
    exact wp_iret X Y dX3_spotStep_13 ⟨_, rfl, h⟩

theorem c_Machine_spotStep {l : Launch} {g : GE} (hg : Inj g) {I : MI} {J : MJ} {Q : Int32 → MI → MJ → Prop} {o : Nat} (ho : okM o) (h : f_Machine_spotStep o I J Q) : Cm l g yX3_spotStep cX3_spotStep 1 (Option.some Jvm.ClassFile.FieldType.int) 0 [.ref (g.1 o)] I J (Pi Q) := by
  refine Cm.of (As := fun ad => [.ref (ad o)]) hg pn_X3 (Nat.le_of_ble_eq_true rfl) ?_
  exact (fun Γ _ _ X Y => w_Machine_spotStep_b0 X Y ho h)
theorem cv_Machine_spotStep {Γ : Ctx} {cc : ByteArray} {nL d pc index : Nat} {own : String} {L : List (Nat × Value)} {rest : List Value} {I : MI} {J : MJ} {Q : Int32 → MI → MJ → Prop} {o : Nat} (X : Cx Γ cc nL own d) (hd : decode cc pc = .ok (.invokevirtual index, 3)) (hlink : Cond.methodLink own index yX3_spotStep ∈ TT) (ho : okM o) (h : f_Machine_spotStep o I J Q) (hrest : (rest.map fun v => v.category).sum ≤ 8) (hdd : 0 + 1 ≤ d) (kk : ∀ (r : Int32) (I' : MI) (J' : MJ), Q r I' J' → Wp Γ nL (pc + 3) L (.int r :: rest) I' J') : Wp Γ nL pc L (.ref (ad Γ o) :: rest) I J :=
  wp_callV (As := []) (rest := rest) (T := TX3) (N := 7) X hd hlink mv_X3_spotStep ho.1 (by decide) rfl (c_Machine_spotStep X.inj ho h) rfl rfl hrest hdd (fun v I' J' hv => by obtain ⟨r, rfl, hq⟩ := hv; exact kk r I' J' hq)
theorem dX7_fillFirst_0 : decode cX7_fillFirst 0 = .ok (.aload_n 1, 1) := by decide +kernel
theorem dX7_fillFirst_1 : decode cX7_fillFirst 1 = .ok (.invokevirtual 55, 3) := by decide +kernel
theorem dX7_fillFirst_4 : decode cX7_fillFirst 4 = .ok (.istore_n 3, 1) := by decide +kernel
theorem dX7_fillFirst_5 : decode cX7_fillFirst 5 = .ok (.iconst 0, 1) := by decide +kernel
theorem dX7_fillFirst_6 : decode cX7_fillFirst 6 = .ok (.istore 4, 2) := by decide +kernel
theorem dX7_fillFirst_8 : decode cX7_fillFirst 8 = .ok (.iload 4, 2) := by decide +kernel
theorem dX7_fillFirst_10 : decode cX7_fillFirst 10 = .ok (.aload_n 1, 1) := by decide +kernel
theorem dX7_fillFirst_11 : decode cX7_fillFirst 11 = .ok (.getfield 59, 3) := by decide +kernel
theorem dX7_fillFirst_14 : decode cX7_fillFirst 14 = .ok (.iconst 4, 1) := by decide +kernel
theorem dX7_fillFirst_15 : decode cX7_fillFirst 15 = .ok (.imul, 1) := by decide +kernel
theorem dX7_fillFirst_16 : decode cX7_fillFirst 16 = .ok (.if_icmp .ge 72, 3) := by decide +kernel
theorem dX7_fillFirst_19 : decode cX7_fillFirst 19 = .ok (.aload_n 0, 1) := by decide +kernel
theorem dX7_fillFirst_20 : decode cX7_fillFirst 20 = .ok (.getfield 9, 3) := by decide +kernel
theorem dX7_fillFirst_23 : decode cX7_fillFirst 23 = .ok (.iload 4, 2) := by decide +kernel
theorem dX7_fillFirst_25 : decode cX7_fillFirst 25 = .ok (.aload_n 1, 1) := by decide +kernel
theorem dX7_fillFirst_26 : decode cX7_fillFirst 26 = .ok (.iload 4, 2) := by decide +kernel
theorem dX7_fillFirst_28 : decode cX7_fillFirst 28 = .ok (.invokevirtual 63, 3) := by decide +kernel
theorem dX7_fillFirst_31 : decode cX7_fillFirst 31 = .ok (.iload_n 2, 1) := by decide +kernel
theorem dX7_fillFirst_32 : decode cX7_fillFirst 32 = .ok (.if_icmp .ne 7, 3) := by decide +kernel
theorem dX7_fillFirst_35 : decode cX7_fillFirst 35 = .ok (.lconst 1, 1) := by decide +kernel
theorem dX7_fillFirst_36 : decode cX7_fillFirst 36 = .ok (.goto 4, 3) := by decide +kernel
theorem dX7_fillFirst_39 : decode cX7_fillFirst 39 = .ok (.lconst 0, 1) := by decide +kernel
theorem dX7_fillFirst_40 : decode cX7_fillFirst 40 = .ok (.lastore, 1) := by decide +kernel
theorem dX7_fillFirst_41 : decode cX7_fillFirst 41 = .ok (.iconst 0, 1) := by decide +kernel
theorem dX7_fillFirst_42 : decode cX7_fillFirst 42 = .ok (.istore 5, 2) := by decide +kernel
theorem dX7_fillFirst_44 : decode cX7_fillFirst 44 = .ok (.iload 5, 2) := by decide +kernel
theorem dX7_fillFirst_46 : decode cX7_fillFirst 46 = .ok (.aload_n 1, 1) := by decide +kernel
theorem dX7_fillFirst_47 : decode cX7_fillFirst 47 = .ok (.getfield 67, 3) := by decide +kernel
theorem dX7_fillFirst_50 : decode cX7_fillFirst 50 = .ok (.if_icmp .ge 29, 3) := by decide +kernel
theorem dX7_fillFirst_53 : decode cX7_fillFirst 53 = .ok (.aload_n 0, 1) := by decide +kernel
theorem dX7_fillFirst_54 : decode cX7_fillFirst 54 = .ok (.getfield 15, 3) := by decide +kernel
theorem dX7_fillFirst_57 : decode cX7_fillFirst 57 = .ok (.iload 4, 2) := by decide +kernel
theorem dX7_fillFirst_59 : decode cX7_fillFirst 59 = .ok (.iconst 4, 1) := by decide +kernel
theorem dX7_fillFirst_60 : decode cX7_fillFirst 60 = .ok (.imul, 1) := by decide +kernel
theorem dX7_fillFirst_61 : decode cX7_fillFirst 61 = .ok (.iload 5, 2) := by decide +kernel
theorem dX7_fillFirst_63 : decode cX7_fillFirst 63 = .ok (.iadd, 1) := by decide +kernel
theorem dX7_fillFirst_64 : decode cX7_fillFirst 64 = .ok (.aload_n 1, 1) := by decide +kernel
theorem dX7_fillFirst_65 : decode cX7_fillFirst 65 = .ok (.iload 4, 2) := by decide +kernel
theorem dX7_fillFirst_67 : decode cX7_fillFirst 67 = .ok (.iload 5, 2) := by decide +kernel
theorem dX7_fillFirst_69 : decode cX7_fillFirst 69 = .ok (.invokevirtual 51, 3) := by decide +kernel
theorem dX7_fillFirst_72 : decode cX7_fillFirst 72 = .ok (.iastore, 1) := by decide +kernel
theorem dX7_fillFirst_73 : decode cX7_fillFirst 73 = .ok (.iinc 5 1, 3) := by decide +kernel
theorem dX7_fillFirst_76 : decode cX7_fillFirst 76 = .ok (.goto (-32), 3) := by decide +kernel
theorem dX7_fillFirst_79 : decode cX7_fillFirst 79 = .ok (.iload 4, 2) := by decide +kernel
theorem dX7_fillFirst_81 : decode cX7_fillFirst 81 = .ok (.iload_n 3, 1) := by decide +kernel
theorem dX7_fillFirst_82 : decode cX7_fillFirst 82 = .ok (.iadd, 1) := by decide +kernel
theorem dX7_fillFirst_83 : decode cX7_fillFirst 83 = .ok (.istore 4, 2) := by decide +kernel
theorem dX7_fillFirst_85 : decode cX7_fillFirst 85 = .ok (.goto (-77), 3) := by decide +kernel
theorem dX7_fillFirst_88 : decode cX7_fillFirst 88 = .ok (.return_, 1) := by decide +kernel
def f_Tally_fillFirst_L44 (x1 : Nat) (x4 : Int32) (k79 : MI → MJ → Prop) : Nat → Int32 → MI → MJ → Prop
  | 0, _, _, _ => False
  | nf44 + 1, x5, I, J =>
  (if (I x1 2) ≤ x5 then k79 I J else f_Machine_nextKey x1 x4 x5 I J (fun r69 I69 J69 => vp_in ((x4 * 4) + x5) 224 ∧ ∀ I72 : MI, I72 = sI I69 25 (upd (I69 25) ((x4 * 4) + x5).toNatClampNeg r69) → ∀ t73 : Int32, t73 = x5 + 1 → f_Tally_fillFirst_L44 x1 x4 k79 nf44 t73 I72 J69))
def f_Tally_fillFirst_b40 (x1 : Nat) (x3 : Int32) (x4 : Int32) (s1 : Int32) (s2 : Int64) (kh : Int32 → MI → MJ → Prop) (I : MI) (J : MJ) : Prop :=
  vp_in s1 1736 ∧ ∀ J40 : MJ, J40 = sJ J 24 (vp_updL (J 24) s1.toNatClampNeg s2) → ∃ n, f_Tally_fillFirst_L44 x1 x4 (fun (I : MI) (J : MJ) => ∀ t83 : Int32, t83 = x4 + x3 → kh t83 I J) n 0 I J40
def f_Tally_fillFirst_L8 (x1 : Nat) (x2 : Int32) (x3 : Int32) (k88 : MI → MJ → Prop) : Nat → Int32 → MI → MJ → Prop
  | 0, _, _, _ => False
  | nf8 + 1, x4, I, J =>
  (if ((I x1 1) * 4) ≤ x4 then k88 I J else f_Machine_answerAt x1 x4 I J (fun r28 I28 J28 => (if r28 = x2 then f_Tally_fillFirst_b40 x1 x3 x4 x4 1 (f_Tally_fillFirst_L8 x1 x2 x3 k88 nf8) I28 J28 else f_Tally_fillFirst_b40 x1 x3 x4 x4 0 (f_Tally_fillFirst_L8 x1 x2 x3 k88 nf8) I28 J28)))
def f_Tally_fillFirst (x1 : Nat) (x2 : Int32) (I : MI) (J : MJ) (Q : MI → MJ → Prop) : Prop :=
  f_Machine_spotStep x1 I J (fun r1 I1 J1 => ∃ n, f_Tally_fillFirst_L8 x1 x2 r1 (fun (I : MI) (J : MJ) => Q I J) n 0 I1 J1)
set_option maxRecDepth 100000 in
set_option maxHeartbeats 4000000 in
theorem w_Tally_fillFirst_L44 {Γ : Ctx} {Q : MI → MJ → Prop} {x1 : Nat} {x2 : Int32} {x3 : Int32} {x4 : Int32} {k79 : MI → MJ → Prop} (X : Cx Γ cX7_fillFirst 6 RX7 2) (Y : Rt Γ (Pv Q) (Option.none : Option Jvm.ClassFile.FieldType)) (hx1 : okM x1) (hk79 : ∀ (I : MI) (J : MJ), k79 I J → Wp Γ 6 79 [(0, .ref (ad Γ 23)), (1, .ref (ad Γ x1)), (2, .int x2), (3, .int x3), (4, .int x4)] [] I J) : ∀ (n : Nat) (x5 : Int32) (I : MI) (J : MJ), f_Tally_fillFirst_L44 x1 x4 k79 n x5 I J → Wp Γ 6 44 [(0, .ref (ad Γ 23)), (1, .ref (ad Γ x1)), (2, .int x2), (3, .int x3), (4, .int x4), (5, .int x5)] [] I J := by
  intro n
  induction n with
  | zero => intro x5 I J h; exact absurd h (by simp [f_Tally_fillFirst_L44])
  | succ n ih =>
  intro x5 I J h
  unfold f_Tally_fillFirst_L44 at h
  refine wp_iload X dX7_fillFirst_44 5 rfl ?_
  refine wp_aload_n X dX7_fillFirst_46 1 rfl ?_
  refine gf_X7_67 X hx1.1 dX7_fillFirst_47 ?_
  refine wp_icmp_ge (tgt := 79) X dX7_fillFirst_50 (by decide) (fun hc => ?_) (fun hc => ?_)
  · have h := ite_t h hc
    refine wp_sub X [0, 1, 2, 3, 4] rfl ?_
    exact hk79 _ _ h
  · have h := ite_f h hc
    refine wp_aload_n X dX7_fillFirst_53 0 rfl ?_
    refine gf_X7_15 (o' := 25) X sh_23 rfl dX7_fillFirst_54 ?_
    refine wp_iload X dX7_fillFirst_57 4 rfl ?_
    refine wp_iconst X dX7_fillFirst_59 ic_4 ?_
    refine wp_imul X dX7_fillFirst_60 ?_
    refine wp_iload X dX7_fillFirst_61 5 rfl ?_
    refine wp_iadd X dX7_fillFirst_63 ?_
    refine wp_aload_n X dX7_fillFirst_64 1 rfl ?_
    refine wp_iload X dX7_fillFirst_65 4 rfl ?_
    refine wp_iload X dX7_fillFirst_67 5 rfl ?_
    refine cv_Machine_nextKey X dX7_fillFirst_69 ml_X7_51 hx1 h (Nat.le_of_ble_eq_true rfl) (by decide) (fun r69 I69 J69 h => ?_)
    obtain ⟨hb72, h⟩ := h
    refine wp_iast X sh_25 hb72 dX7_fillFirst_72 ?_
    refine wp_memI (fun I72 eI72 => ?_)
    have h := h I72 eI72
    obtain ⟨t73, et73⟩ : ∃ y : Int32, y = x5 + 1 := ⟨_, rfl⟩
    have h := h t73 et73
    refine wp_iinc (L' := [(5, .int t73), (0, .ref (ad Γ 23)), (1, .ref (ad Γ x1)), (2, .int x2), (3, .int x3), (4, .int x4)]) X dX7_fillFirst_73 5 rfl (ii_1 et73) (by decide) rfl ?_
    refine wp_goto (tgt := 44) X dX7_fillFirst_76 (by decide) ?_
    refine wp_sub X [1, 2, 3, 4, 5, 0] rfl ?_
    exact ih _ _ _ h

set_option maxRecDepth 100000 in
set_option maxHeartbeats 4000000 in
theorem w_Tally_fillFirst_b40 {Γ : Ctx} {Q : MI → MJ → Prop} {x1 : Nat} {x2 : Int32} {x3 : Int32} {x4 : Int32} {s1 : Int32} {s2 : Int64} {kh : Int32 → MI → MJ → Prop} (X : Cx Γ cX7_fillFirst 6 RX7 2) (Y : Rt Γ (Pv Q) (Option.none : Option Jvm.ClassFile.FieldType)) (hx1 : okM x1) (hkh : ∀ (x4 : Int32) (I : MI) (J : MJ), kh x4 I J → Wp Γ 6 8 [(0, .ref (ad Γ 23)), (1, .ref (ad Γ x1)), (2, .int x2), (3, .int x3), (4, .int x4)] [] I J) {I : MI} {J : MJ} (h : f_Tally_fillFirst_b40 x1 x3 x4 s1 s2 kh I J) : Wp Γ 6 40 [(0, .ref (ad Γ 23)), (1, .ref (ad Γ x1)), (2, .int x2), (3, .int x3), (4, .int x4)] [.long s2, .int s1, .ref (ad Γ 24)] I J := by
  unfold f_Tally_fillFirst_b40 at h
  obtain ⟨hb40, h⟩ := h
  refine wp_last X sh_24 hb40 dX7_fillFirst_40 ?_
  refine wp_memJ (fun J40 eJ40 => ?_)
  have h := h J40 eJ40
  refine wp_iconst X dX7_fillFirst_41 ic_0 ?_
  refine wp_istore (L' := [(5, .int 0), (0, .ref (ad Γ 23)), (1, .ref (ad Γ x1)), (2, .int x2), (3, .int x3), (4, .int x4)]) X dX7_fillFirst_42 (by decide) rfl ?_
  obtain ⟨n, h⟩ := h
  refine wp_sub X [1, 2, 3, 4, 5, 0] rfl ?_
  refine w_Tally_fillFirst_L44 X Y hx1 ?_ n _ _ _ h
  · intro I J h
    refine wp_iload X dX7_fillFirst_79 4 rfl ?_
    refine wp_iload_n X dX7_fillFirst_81 3 rfl ?_
    refine wp_iadd X dX7_fillFirst_82 ?_
    refine wp_topi (fun t83 et83 => ?_)
    have h := h t83 et83
    refine wp_istore (L' := [(4, .int t83), (0, .ref (ad Γ 23)), (1, .ref (ad Γ x1)), (2, .int x2), (3, .int x3)]) X dX7_fillFirst_83 (by decide) rfl ?_
    refine wp_goto (tgt := 8) X dX7_fillFirst_85 (by decide) ?_
    refine wp_sub X [1, 2, 3, 4, 0] rfl ?_
    exact hkh _ _ _ h

set_option maxRecDepth 100000 in
set_option maxHeartbeats 4000000 in
theorem w_Tally_fillFirst_L8 {Γ : Ctx} {Q : MI → MJ → Prop} {x1 : Nat} {x2 : Int32} {x3 : Int32} {k88 : MI → MJ → Prop} (X : Cx Γ cX7_fillFirst 6 RX7 2) (Y : Rt Γ (Pv Q) (Option.none : Option Jvm.ClassFile.FieldType)) (hx1 : okM x1) (hk88 : ∀ (I : MI) (J : MJ), k88 I J → Wp Γ 6 88 [] [] I J) : ∀ (n : Nat) (x4 : Int32) (I : MI) (J : MJ), f_Tally_fillFirst_L8 x1 x2 x3 k88 n x4 I J → Wp Γ 6 8 [(0, .ref (ad Γ 23)), (1, .ref (ad Γ x1)), (2, .int x2), (3, .int x3), (4, .int x4)] [] I J := by
  intro n
  induction n with
  | zero => intro x4 I J h; exact absurd h (by simp [f_Tally_fillFirst_L8])
  | succ n ih =>
  intro x4 I J h
  unfold f_Tally_fillFirst_L8 at h
  refine wp_iload X dX7_fillFirst_8 4 rfl ?_
  refine wp_aload_n X dX7_fillFirst_10 1 rfl ?_
  refine gf_X7_59 X hx1.1 dX7_fillFirst_11 ?_
  refine wp_iconst X dX7_fillFirst_14 ic_4 ?_
  refine wp_imul X dX7_fillFirst_15 ?_
  refine wp_icmp_ge (tgt := 88) X dX7_fillFirst_16 (by decide) (fun hc => ?_) (fun hc => ?_)
  · have h := ite_t h hc
    refine wp_sub X [] rfl ?_
    exact hk88 _ _ h
  · have h := ite_f h hc
    refine wp_aload_n X dX7_fillFirst_19 0 rfl ?_
    refine gf_X7_9 (o' := 24) X sh_23 rfl dX7_fillFirst_20 ?_
    refine wp_iload X dX7_fillFirst_23 4 rfl ?_
    refine wp_aload_n X dX7_fillFirst_25 1 rfl ?_
    refine wp_iload X dX7_fillFirst_26 4 rfl ?_
    refine cv_Machine_answerAt X dX7_fillFirst_28 ml_X7_63 hx1 h (Nat.le_of_ble_eq_true rfl) (by decide) (fun r28 I28 J28 h => ?_)
    refine wp_iload_n X dX7_fillFirst_31 2 rfl ?_
    refine wp_icmp_ne (tgt := 39) X dX7_fillFirst_32 (by decide) (fun hc => ?_) (fun hc => ?_)
    · have h := ite_f h hc
      refine wp_lconst X dX7_fillFirst_39 lc_0 ?_
      exact w_Tally_fillFirst_b40 X Y hx1 ih h
    · have h := ite_t h hc
      refine wp_lconst X dX7_fillFirst_35 lc_1 ?_
      refine wp_goto (tgt := 40) X dX7_fillFirst_36 (by decide) ?_
      exact w_Tally_fillFirst_b40 X Y hx1 ih h

set_option maxRecDepth 100000 in
set_option maxHeartbeats 4000000 in
theorem w_Tally_fillFirst_b0 {Γ : Ctx} {Q : MI → MJ → Prop} {x1 : Nat} {x2 : Int32}  (X : Cx Γ cX7_fillFirst 6 RX7 2) (Y : Rt Γ (Pv Q) (Option.none : Option Jvm.ClassFile.FieldType)) (hx1 : okM x1)  {I : MI} {J : MJ} (h : f_Tally_fillFirst x1 x2 I J Q) : Wp Γ 6 0 [(0, .ref (ad Γ 23)), (1, .ref (ad Γ x1)), (2, .int x2)] [] I J := by
  unfold f_Tally_fillFirst at h
  refine wp_aload_n X dX7_fillFirst_0 1 rfl ?_
  refine cv_Machine_spotStep X dX7_fillFirst_1 ml_X7_55 hx1 h (Nat.le_of_ble_eq_true rfl) (by decide) (fun r1 I1 J1 h => ?_)
  refine wp_istore_n (L' := [(3, .int r1), (0, .ref (ad Γ 23)), (1, .ref (ad Γ x1)), (2, .int x2)]) X dX7_fillFirst_4 rfl (by decide) rfl ?_
  refine wp_iconst X dX7_fillFirst_5 ic_0 ?_
  refine wp_istore (L' := [(4, .int 0), (3, .int r1), (0, .ref (ad Γ 23)), (1, .ref (ad Γ x1)), (2, .int x2)]) X dX7_fillFirst_6 (by decide) rfl ?_
  obtain ⟨n, h⟩ := h
  refine wp_sub X [2, 3, 4, 1, 0] rfl ?_
  refine w_Tally_fillFirst_L8 X Y hx1 ?_ n _ _ _ h
  · intro I J h
    exact wp_vret X Y dX7_fillFirst_88 ⟨rfl, h⟩

theorem c_Tally_fillFirst {l : Launch} {g : GE} (hg : Inj g) {I : MI} {J : MJ} {Q : MI → MJ → Prop} {x1 : Nat} {x2 : Int32} (hx1 : okM x1) (h : f_Tally_fillFirst x1 x2 I J Q) : Cm l g yX7_fillFirst cX7_fillFirst 6 (Option.none : Option Jvm.ClassFile.FieldType) 2 [.ref (g.1 23), .ref (g.1 x1), .int x2] I J (Pv Q) := by
  refine Cm.of (As := fun ad => [.ref (ad 23), .ref (ad x1), .int x2]) hg pn_X7 (Nat.le_of_ble_eq_true rfl) ?_
  exact (fun Γ _ _ X Y => w_Tally_fillFirst_b0 X Y hx1 h)
theorem cv_Tally_fillFirst {Γ : Ctx} {cc : ByteArray} {nL d pc index : Nat} {own : String} {L : List (Nat × Value)} {rest : List Value} {I : MI} {J : MJ} {Q : MI → MJ → Prop} {x1 : Nat} {x2 : Int32} (X : Cx Γ cc nL own d) (hd : decode cc pc = .ok (.invokevirtual index, 3)) (hlink : Cond.methodLink own index yX7_fillFirst ∈ TT) (hx1 : okM x1) (h : f_Tally_fillFirst x1 x2 I J Q) (hrest : (rest.map fun v => v.category).sum ≤ 8) (hdd : 2 + 1 ≤ d) (kk : ∀ (I' : MI) (J' : MJ), Q I' J' → Wp Γ nL (pc + 3) L rest I' J') : Wp Γ nL pc L (.int x2 :: .ref (ad Γ x1) :: .ref (ad Γ 23) :: rest) I J :=
  wp_callV (As := [.ref (ad Γ x1), .int x2]) (rest := rest) (T := TX7) (N := 2) X hd hlink mv_X7_fillFirst sh_23 (by decide) rfl (c_Tally_fillFirst X.inj hx1 h) rfl rfl hrest hdd (fun v I' J' hv => by obtain ⟨rfl, hq⟩ := hv; exact kk I' J' hq)
theorem dX7_waysFrom_0 : decode cX7_waysFrom 0 = .ok (.iload_n 2, 1) := by decide +kernel
theorem dX7_waysFrom_1 : decode cX7_waysFrom 1 = .ok (.iconst (-1), 1) := by decide +kernel
theorem dX7_waysFrom_2 : decode cX7_waysFrom 2 = .ok (.if_icmp .ne 7, 3) := by decide +kernel
theorem dX7_waysFrom_5 : decode cX7_waysFrom 5 = .ok (.lconst 0, 1) := by decide +kernel
theorem dX7_waysFrom_6 : decode cX7_waysFrom 6 = .ok (.goto 14, 3) := by decide +kernel
theorem dX7_waysFrom_9 : decode cX7_waysFrom 9 = .ok (.aload_n 0, 1) := by decide +kernel
theorem dX7_waysFrom_10 : decode cX7_waysFrom 10 = .ok (.getfield 9, 3) := by decide +kernel
theorem dX7_waysFrom_13 : decode cX7_waysFrom 13 = .ok (.iload_n 1, 1) := by decide +kernel
theorem dX7_waysFrom_14 : decode cX7_waysFrom 14 = .ok (.bipush 56, 2) := by decide +kernel
theorem dX7_waysFrom_16 : decode cX7_waysFrom 16 = .ok (.imul, 1) := by decide +kernel
theorem dX7_waysFrom_17 : decode cX7_waysFrom 17 = .ok (.iload_n 2, 1) := by decide +kernel
theorem dX7_waysFrom_18 : decode cX7_waysFrom 18 = .ok (.iadd, 1) := by decide +kernel
theorem dX7_waysFrom_19 : decode cX7_waysFrom 19 = .ok (.laload, 1) := by decide +kernel
theorem dX7_waysFrom_20 : decode cX7_waysFrom 20 = .ok (.lreturn, 1) := by decide +kernel
def f_Tally_waysFrom (x1 : Int32) (x2 : Int32) (I : MI) (J : MJ) (Q : Int64 → MI → MJ → Prop) : Prop :=
  (if x2 = (-1) then Q 0 I J else vp_in ((x1 * 56) + x2) 1736 ∧ Q (J 24 ((x1 * 56) + x2).toNatClampNeg) I J)
set_option maxRecDepth 100000 in
set_option maxHeartbeats 4000000 in
theorem w_Tally_waysFrom_b0 {Γ : Ctx} {Q : Int64 → MI → MJ → Prop} {x1 : Int32} {x2 : Int32}  (X : Cx Γ cX7_waysFrom 3 RX7 0) (Y : Rt Γ (Pl Q) (Option.some Jvm.ClassFile.FieldType.long))   {I : MI} {J : MJ} (h : f_Tally_waysFrom x1 x2 I J Q) : Wp Γ 3 0 [(0, .ref (ad Γ 23)), (1, .int x1), (2, .int x2)] [] I J := by
  unfold f_Tally_waysFrom at h
  refine wp_iload_n X dX7_waysFrom_0 2 rfl ?_
  refine wp_iconst X dX7_waysFrom_1 ic_m1 ?_
  refine wp_icmp_ne (tgt := 9) X dX7_waysFrom_2 (by decide) (fun hc => ?_) (fun hc => ?_)
  · have h := ite_f h hc
    refine wp_aload_n X dX7_waysFrom_9 0 rfl ?_
    refine gf_X7_9 (o' := 24) X sh_23 rfl dX7_waysFrom_10 ?_
    refine wp_iload_n X dX7_waysFrom_13 1 rfl ?_
    refine wp_bipush X dX7_waysFrom_14 bi_56 ?_
    refine wp_imul X dX7_waysFrom_16 ?_
    refine wp_iload_n X dX7_waysFrom_17 2 rfl ?_
    refine wp_iadd X dX7_waysFrom_18 ?_
    obtain ⟨hb19, h⟩ := h
    refine wp_lald X sh_24 hb19 dX7_waysFrom_19 ?_
    exact wp_lret X Y dX7_waysFrom_20 ⟨_, rfl, h⟩
  · have h := ite_t h hc
    refine wp_lconst X dX7_waysFrom_5 lc_0 ?_
    refine wp_goto (tgt := 20) X dX7_waysFrom_6 (by decide) ?_
    exact wp_lret X Y dX7_waysFrom_20 ⟨_, rfl, h⟩

theorem c_Tally_waysFrom {l : Launch} {g : GE} (hg : Inj g) {I : MI} {J : MJ} {Q : Int64 → MI → MJ → Prop} {x1 : Int32} {x2 : Int32}  (h : f_Tally_waysFrom x1 x2 I J Q) : Cm l g yX7_waysFrom cX7_waysFrom 3 (Option.some Jvm.ClassFile.FieldType.long) 0 [.ref (g.1 23), .int x1, .int x2] I J (Pl Q) := by
  refine Cm.of (As := fun ad => [.ref (ad 23), .int x1, .int x2]) hg pn_X7 (Nat.le_of_ble_eq_true rfl) ?_
  exact (fun Γ _ _ X Y => w_Tally_waysFrom_b0 X Y  h)
theorem cv_Tally_waysFrom {Γ : Ctx} {cc : ByteArray} {nL d pc index : Nat} {own : String} {L : List (Nat × Value)} {rest : List Value} {I : MI} {J : MJ} {Q : Int64 → MI → MJ → Prop} {x1 : Int32} {x2 : Int32} (X : Cx Γ cc nL own d) (hd : decode cc pc = .ok (.invokevirtual index, 3)) (hlink : Cond.methodLink own index yX7_waysFrom ∈ TT)  (h : f_Tally_waysFrom x1 x2 I J Q) (hrest : (rest.map fun v => v.category).sum ≤ 8) (hdd : 0 + 1 ≤ d) (kk : ∀ (r : Int64) (I' : MI) (J' : MJ), Q r I' J' → Wp Γ nL (pc + 3) L (.long r :: rest) I' J') : Wp Γ nL pc L (.int x2 :: .int x1 :: .ref (ad Γ 23) :: rest) I J :=
  wp_callV (As := [.int x1, .int x2]) (rest := rest) (T := TX7) (N := 2) X hd hlink mv_X7_waysFrom sh_23 (by decide) rfl (c_Tally_waysFrom X.inj  h) rfl rfl hrest hdd (fun v I' J' hv => by obtain ⟨r, rfl, hq⟩ := hv; exact kk r I' J' hq)
theorem dX7_fillNext_0 : decode cX7_fillNext 0 = .ok (.aload_n 1, 1) := by decide +kernel
theorem dX7_fillNext_1 : decode cX7_fillNext 1 = .ok (.invokevirtual 55, 3) := by decide +kernel
theorem dX7_fillNext_4 : decode cX7_fillNext 4 = .ok (.istore_n 3, 1) := by decide +kernel
theorem dX7_fillNext_5 : decode cX7_fillNext 5 = .ok (.iconst 0, 1) := by decide +kernel
theorem dX7_fillNext_6 : decode cX7_fillNext 6 = .ok (.istore 4, 2) := by decide +kernel
theorem dX7_fillNext_8 : decode cX7_fillNext 8 = .ok (.iload 4, 2) := by decide +kernel
theorem dX7_fillNext_10 : decode cX7_fillNext 10 = .ok (.aload_n 1, 1) := by decide +kernel
theorem dX7_fillNext_11 : decode cX7_fillNext 11 = .ok (.getfield 59, 3) := by decide +kernel
theorem dX7_fillNext_14 : decode cX7_fillNext 14 = .ok (.iconst 4, 1) := by decide +kernel
theorem dX7_fillNext_15 : decode cX7_fillNext 15 = .ok (.imul, 1) := by decide +kernel
theorem dX7_fillNext_16 : decode cX7_fillNext 16 = .ok (.if_icmp .ge 71, 3) := by decide +kernel
theorem dX7_fillNext_19 : decode cX7_fillNext 19 = .ok (.lconst 0, 1) := by decide +kernel
theorem dX7_fillNext_20 : decode cX7_fillNext 20 = .ok (.lstore 5, 2) := by decide +kernel
theorem dX7_fillNext_22 : decode cX7_fillNext 22 = .ok (.iconst 0, 1) := by decide +kernel
theorem dX7_fillNext_23 : decode cX7_fillNext 23 = .ok (.istore 7, 2) := by decide +kernel
theorem dX7_fillNext_25 : decode cX7_fillNext 25 = .ok (.iload 7, 2) := by decide +kernel
theorem dX7_fillNext_27 : decode cX7_fillNext 27 = .ok (.aload_n 1, 1) := by decide +kernel
theorem dX7_fillNext_28 : decode cX7_fillNext 28 = .ok (.getfield 67, 3) := by decide +kernel
theorem dX7_fillNext_31 : decode cX7_fillNext 31 = .ok (.if_icmp .ge 33, 3) := by decide +kernel
theorem dX7_fillNext_34 : decode cX7_fillNext 34 = .ok (.lload 5, 2) := by decide +kernel
theorem dX7_fillNext_36 : decode cX7_fillNext 36 = .ok (.aload_n 0, 1) := by decide +kernel
theorem dX7_fillNext_37 : decode cX7_fillNext 37 = .ok (.iload_n 2, 1) := by decide +kernel
theorem dX7_fillNext_38 : decode cX7_fillNext 38 = .ok (.iconst 1, 1) := by decide +kernel
theorem dX7_fillNext_39 : decode cX7_fillNext 39 = .ok (.isub, 1) := by decide +kernel
theorem dX7_fillNext_40 : decode cX7_fillNext 40 = .ok (.aload_n 0, 1) := by decide +kernel
theorem dX7_fillNext_41 : decode cX7_fillNext 41 = .ok (.getfield 15, 3) := by decide +kernel
theorem dX7_fillNext_44 : decode cX7_fillNext 44 = .ok (.iload 4, 2) := by decide +kernel
theorem dX7_fillNext_46 : decode cX7_fillNext 46 = .ok (.iconst 4, 1) := by decide +kernel
theorem dX7_fillNext_47 : decode cX7_fillNext 47 = .ok (.imul, 1) := by decide +kernel
theorem dX7_fillNext_48 : decode cX7_fillNext 48 = .ok (.iload 7, 2) := by decide +kernel
theorem dX7_fillNext_50 : decode cX7_fillNext 50 = .ok (.iadd, 1) := by decide +kernel
theorem dX7_fillNext_51 : decode cX7_fillNext 51 = .ok (.iaload, 1) := by decide +kernel
theorem dX7_fillNext_52 : decode cX7_fillNext 52 = .ok (.invokevirtual 26, 3) := by decide +kernel
theorem dX7_fillNext_55 : decode cX7_fillNext 55 = .ok (.ladd, 1) := by decide +kernel
theorem dX7_fillNext_56 : decode cX7_fillNext 56 = .ok (.lstore 5, 2) := by decide +kernel
theorem dX7_fillNext_58 : decode cX7_fillNext 58 = .ok (.iinc 7 1, 3) := by decide +kernel
theorem dX7_fillNext_61 : decode cX7_fillNext 61 = .ok (.goto (-36), 3) := by decide +kernel
theorem dX7_fillNext_64 : decode cX7_fillNext 64 = .ok (.aload_n 0, 1) := by decide +kernel
theorem dX7_fillNext_65 : decode cX7_fillNext 65 = .ok (.getfield 9, 3) := by decide +kernel
theorem dX7_fillNext_68 : decode cX7_fillNext 68 = .ok (.iload_n 2, 1) := by decide +kernel
theorem dX7_fillNext_69 : decode cX7_fillNext 69 = .ok (.bipush 56, 2) := by decide +kernel
theorem dX7_fillNext_71 : decode cX7_fillNext 71 = .ok (.imul, 1) := by decide +kernel
theorem dX7_fillNext_72 : decode cX7_fillNext 72 = .ok (.iload 4, 2) := by decide +kernel
theorem dX7_fillNext_74 : decode cX7_fillNext 74 = .ok (.iadd, 1) := by decide +kernel
theorem dX7_fillNext_75 : decode cX7_fillNext 75 = .ok (.lload 5, 2) := by decide +kernel
theorem dX7_fillNext_77 : decode cX7_fillNext 77 = .ok (.lastore, 1) := by decide +kernel
theorem dX7_fillNext_78 : decode cX7_fillNext 78 = .ok (.iload 4, 2) := by decide +kernel
theorem dX7_fillNext_80 : decode cX7_fillNext 80 = .ok (.iload_n 3, 1) := by decide +kernel
theorem dX7_fillNext_81 : decode cX7_fillNext 81 = .ok (.iadd, 1) := by decide +kernel
theorem dX7_fillNext_82 : decode cX7_fillNext 82 = .ok (.istore 4, 2) := by decide +kernel
theorem dX7_fillNext_84 : decode cX7_fillNext 84 = .ok (.goto (-76), 3) := by decide +kernel
theorem dX7_fillNext_87 : decode cX7_fillNext 87 = .ok (.return_, 1) := by decide +kernel
def f_Tally_fillNext_L25 (x1 : Nat) (x2 : Int32) (x4 : Int32) (k64 : Int64 → MI → MJ → Prop) : Nat → Int64 → Int32 → MI → MJ → Prop
  | 0, _, _, _, _ => False
  | nf25 + 1, x5, x7, I, J =>
  (if (I x1 2) ≤ x7 then k64 x5 I J else vp_in ((x4 * 4) + x7) 224 ∧ f_Tally_waysFrom (x2 - 1) (I 25 ((x4 * 4) + x7).toNatClampNeg) I J (fun r52 I52 J52 => ∀ t56 : Int64, t56 = x5 + r52 → ∀ t58 : Int32, t58 = x7 + 1 → f_Tally_fillNext_L25 x1 x2 x4 k64 nf25 t56 t58 I52 J52))
def f_Tally_fillNext_L8 (x1 : Nat) (x2 : Int32) (x3 : Int32) (k87 : MI → MJ → Prop) : Nat → Int32 → MI → MJ → Prop
  | 0, _, _, _ => False
  | nf8 + 1, x4, I, J =>
  (if ((I x1 1) * 4) ≤ x4 then k87 I J else ∃ n, f_Tally_fillNext_L25 x1 x2 x4 (fun (z64_x5 : Int64) (I : MI) (J : MJ) => vp_in ((x2 * 56) + x4) 1736 ∧ ∀ J77 : MJ, J77 = sJ J 24 (vp_updL (J 24) ((x2 * 56) + x4).toNatClampNeg z64_x5) → ∀ t82 : Int32, t82 = x4 + x3 → f_Tally_fillNext_L8 x1 x2 x3 k87 nf8 t82 I J77) n 0 0 I J)
def f_Tally_fillNext (x1 : Nat) (x2 : Int32) (I : MI) (J : MJ) (Q : MI → MJ → Prop) : Prop :=
  f_Machine_spotStep x1 I J (fun r1 I1 J1 => ∃ n, f_Tally_fillNext_L8 x1 x2 r1 (fun (I : MI) (J : MJ) => Q I J) n 0 I1 J1)
set_option maxRecDepth 100000 in
set_option maxHeartbeats 4000000 in
theorem w_Tally_fillNext_L25 {Γ : Ctx} {Q : MI → MJ → Prop} {x1 : Nat} {x2 : Int32} {x3 : Int32} {x4 : Int32} {k64 : Int64 → MI → MJ → Prop} (X : Cx Γ cX7_fillNext 8 RX7 1) (Y : Rt Γ (Pv Q) (Option.none : Option Jvm.ClassFile.FieldType)) (hx1 : okM x1) (hk64 : ∀ (x5 : Int64) (I : MI) (J : MJ), k64 x5 I J → Wp Γ 8 64 [(0, .ref (ad Γ 23)), (1, .ref (ad Γ x1)), (2, .int x2), (3, .int x3), (4, .int x4), (5, .long x5)] [] I J) : ∀ (n : Nat) (x5 : Int64) (x7 : Int32) (I : MI) (J : MJ), f_Tally_fillNext_L25 x1 x2 x4 k64 n x5 x7 I J → Wp Γ 8 25 [(0, .ref (ad Γ 23)), (1, .ref (ad Γ x1)), (2, .int x2), (3, .int x3), (4, .int x4), (5, .long x5), (7, .int x7)] [] I J := by
  intro n
  induction n with
  | zero => intro x5 x7 I J h; exact absurd h (by simp [f_Tally_fillNext_L25])
  | succ n ih =>
  intro x5 x7 I J h
  unfold f_Tally_fillNext_L25 at h
  refine wp_iload X dX7_fillNext_25 6 rfl ?_
  refine wp_aload_n X dX7_fillNext_27 1 rfl ?_
  refine gf_X7_67 X hx1.1 dX7_fillNext_28 ?_
  refine wp_icmp_ge (tgt := 64) X dX7_fillNext_31 (by decide) (fun hc => ?_) (fun hc => ?_)
  · have h := ite_t h hc
    refine wp_sub X [0, 1, 2, 3, 4, 5] rfl ?_
    exact hk64 _ _ _ h
  · have h := ite_f h hc
    refine wp_lload X dX7_fillNext_34 5 rfl ?_
    refine wp_aload_n X dX7_fillNext_36 0 rfl ?_
    refine wp_iload_n X dX7_fillNext_37 2 rfl ?_
    refine wp_iconst X dX7_fillNext_38 ic_1 ?_
    refine wp_isub X dX7_fillNext_39 ?_
    refine wp_aload_n X dX7_fillNext_40 0 rfl ?_
    refine gf_X7_15 (o' := 25) X sh_23 rfl dX7_fillNext_41 ?_
    refine wp_iload X dX7_fillNext_44 4 rfl ?_
    refine wp_iconst X dX7_fillNext_46 ic_4 ?_
    refine wp_imul X dX7_fillNext_47 ?_
    refine wp_iload X dX7_fillNext_48 6 rfl ?_
    refine wp_iadd X dX7_fillNext_50 ?_
    obtain ⟨hb51, h⟩ := h
    refine wp_iald X sh_25 hb51 dX7_fillNext_51 ?_
    refine cv_Tally_waysFrom X dX7_fillNext_52 ml_X7_26  h (Nat.le_of_ble_eq_true rfl) (by decide) (fun r52 I52 J52 h => ?_)
    refine wp_ladd X dX7_fillNext_55 ?_
    refine wp_topl (fun t56 et56 => ?_)
    have h := h t56 et56
    refine wp_lstore (L' := [(5, .long t56), (0, .ref (ad Γ 23)), (1, .ref (ad Γ x1)), (2, .int x2), (3, .int x3), (4, .int x4), (7, .int x7)]) X dX7_fillNext_56 (by decide) rfl ?_
    obtain ⟨t58, et58⟩ : ∃ y : Int32, y = x7 + 1 := ⟨_, rfl⟩
    have h := h t58 et58
    refine wp_iinc (L' := [(7, .int t58), (5, .long t56), (0, .ref (ad Γ 23)), (1, .ref (ad Γ x1)), (2, .int x2), (3, .int x3), (4, .int x4)]) X dX7_fillNext_58 6 rfl (ii_1 et58) (by decide) rfl ?_
    refine wp_goto (tgt := 25) X dX7_fillNext_61 (by decide) ?_
    refine wp_sub X [2, 3, 4, 5, 6, 1, 0] rfl ?_
    exact ih _ _ _ _ h

set_option maxRecDepth 100000 in
set_option maxHeartbeats 4000000 in
theorem w_Tally_fillNext_L8 {Γ : Ctx} {Q : MI → MJ → Prop} {x1 : Nat} {x2 : Int32} {x3 : Int32} {k87 : MI → MJ → Prop} (X : Cx Γ cX7_fillNext 8 RX7 1) (Y : Rt Γ (Pv Q) (Option.none : Option Jvm.ClassFile.FieldType)) (hx1 : okM x1) (hk87 : ∀ (I : MI) (J : MJ), k87 I J → Wp Γ 8 87 [] [] I J) : ∀ (n : Nat) (x4 : Int32) (I : MI) (J : MJ), f_Tally_fillNext_L8 x1 x2 x3 k87 n x4 I J → Wp Γ 8 8 [(0, .ref (ad Γ 23)), (1, .ref (ad Γ x1)), (2, .int x2), (3, .int x3), (4, .int x4)] [] I J := by
  intro n
  induction n with
  | zero => intro x4 I J h; exact absurd h (by simp [f_Tally_fillNext_L8])
  | succ n ih =>
  intro x4 I J h
  unfold f_Tally_fillNext_L8 at h
  refine wp_iload X dX7_fillNext_8 4 rfl ?_
  refine wp_aload_n X dX7_fillNext_10 1 rfl ?_
  refine gf_X7_59 X hx1.1 dX7_fillNext_11 ?_
  refine wp_iconst X dX7_fillNext_14 ic_4 ?_
  refine wp_imul X dX7_fillNext_15 ?_
  refine wp_icmp_ge (tgt := 87) X dX7_fillNext_16 (by decide) (fun hc => ?_) (fun hc => ?_)
  · have h := ite_t h hc
    refine wp_sub X [] rfl ?_
    exact hk87 _ _ h
  · have h := ite_f h hc
    refine wp_lconst X dX7_fillNext_19 lc_0 ?_
    refine wp_lstore (L' := [(5, .long 0), (0, .ref (ad Γ 23)), (1, .ref (ad Γ x1)), (2, .int x2), (3, .int x3), (4, .int x4)]) X dX7_fillNext_20 (by decide) rfl ?_
    refine wp_iconst X dX7_fillNext_22 ic_0 ?_
    refine wp_istore (L' := [(7, .int 0), (5, .long 0), (0, .ref (ad Γ 23)), (1, .ref (ad Γ x1)), (2, .int x2), (3, .int x3), (4, .int x4)]) X dX7_fillNext_23 (by decide) rfl ?_
    obtain ⟨n, h⟩ := h
    refine wp_sub X [2, 3, 4, 5, 6, 1, 0] rfl ?_
    refine w_Tally_fillNext_L25 X Y hx1 ?_ n _ _ _ _ h
    · intro z64_x5 I J h
      refine wp_aload_n X dX7_fillNext_64 0 rfl ?_
      refine gf_X7_9 (o' := 24) X sh_23 rfl dX7_fillNext_65 ?_
      refine wp_iload_n X dX7_fillNext_68 2 rfl ?_
      refine wp_bipush X dX7_fillNext_69 bi_56 ?_
      refine wp_imul X dX7_fillNext_71 ?_
      refine wp_iload X dX7_fillNext_72 4 rfl ?_
      refine wp_iadd X dX7_fillNext_74 ?_
      refine wp_lload X dX7_fillNext_75 5 rfl ?_
      obtain ⟨hb77, h⟩ := h
      refine wp_last X sh_24 hb77 dX7_fillNext_77 ?_
      refine wp_memJ (fun J77 eJ77 => ?_)
      have h := h J77 eJ77
      refine wp_iload X dX7_fillNext_78 4 rfl ?_
      refine wp_iload_n X dX7_fillNext_80 3 rfl ?_
      refine wp_iadd X dX7_fillNext_81 ?_
      refine wp_topi (fun t82 et82 => ?_)
      have h := h t82 et82
      refine wp_istore (L' := [(4, .int t82), (0, .ref (ad Γ 23)), (1, .ref (ad Γ x1)), (2, .int x2), (3, .int x3), (5, .long z64_x5)]) X dX7_fillNext_82 (by decide) rfl ?_
      refine wp_goto (tgt := 8) X dX7_fillNext_84 (by decide) ?_
      refine wp_sub X [1, 2, 3, 4, 0] rfl ?_
      exact ih _ _ _ h

set_option maxRecDepth 100000 in
set_option maxHeartbeats 4000000 in
theorem w_Tally_fillNext_b0 {Γ : Ctx} {Q : MI → MJ → Prop} {x1 : Nat} {x2 : Int32}  (X : Cx Γ cX7_fillNext 8 RX7 1) (Y : Rt Γ (Pv Q) (Option.none : Option Jvm.ClassFile.FieldType)) (hx1 : okM x1)  {I : MI} {J : MJ} (h : f_Tally_fillNext x1 x2 I J Q) : Wp Γ 8 0 [(0, .ref (ad Γ 23)), (1, .ref (ad Γ x1)), (2, .int x2)] [] I J := by
  unfold f_Tally_fillNext at h
  refine wp_aload_n X dX7_fillNext_0 1 rfl ?_
  refine cv_Machine_spotStep X dX7_fillNext_1 ml_X7_55 hx1 h (Nat.le_of_ble_eq_true rfl) (by decide) (fun r1 I1 J1 h => ?_)
  refine wp_istore_n (L' := [(3, .int r1), (0, .ref (ad Γ 23)), (1, .ref (ad Γ x1)), (2, .int x2)]) X dX7_fillNext_4 rfl (by decide) rfl ?_
  refine wp_iconst X dX7_fillNext_5 ic_0 ?_
  refine wp_istore (L' := [(4, .int 0), (3, .int r1), (0, .ref (ad Γ 23)), (1, .ref (ad Γ x1)), (2, .int x2)]) X dX7_fillNext_6 (by decide) rfl ?_
  obtain ⟨n, h⟩ := h
  refine wp_sub X [2, 3, 4, 1, 0] rfl ?_
  refine w_Tally_fillNext_L8 X Y hx1 ?_ n _ _ _ h
  · intro I J h
    exact wp_vret X Y dX7_fillNext_87 ⟨rfl, h⟩

theorem c_Tally_fillNext {l : Launch} {g : GE} (hg : Inj g) {I : MI} {J : MJ} {Q : MI → MJ → Prop} {x1 : Nat} {x2 : Int32} (hx1 : okM x1) (h : f_Tally_fillNext x1 x2 I J Q) : Cm l g yX7_fillNext cX7_fillNext 8 (Option.none : Option Jvm.ClassFile.FieldType) 1 [.ref (g.1 23), .ref (g.1 x1), .int x2] I J (Pv Q) := by
  refine Cm.of (As := fun ad => [.ref (ad 23), .ref (ad x1), .int x2]) hg pn_X7 (Nat.le_of_ble_eq_true rfl) ?_
  exact (fun Γ _ _ X Y => w_Tally_fillNext_b0 X Y hx1 h)
theorem cv_Tally_fillNext {Γ : Ctx} {cc : ByteArray} {nL d pc index : Nat} {own : String} {L : List (Nat × Value)} {rest : List Value} {I : MI} {J : MJ} {Q : MI → MJ → Prop} {x1 : Nat} {x2 : Int32} (X : Cx Γ cc nL own d) (hd : decode cc pc = .ok (.invokevirtual index, 3)) (hlink : Cond.methodLink own index yX7_fillNext ∈ TT) (hx1 : okM x1) (h : f_Tally_fillNext x1 x2 I J Q) (hrest : (rest.map fun v => v.category).sum ≤ 8) (hdd : 1 + 1 ≤ d) (kk : ∀ (I' : MI) (J' : MJ), Q I' J' → Wp Γ nL (pc + 3) L rest I' J') : Wp Γ nL pc L (.int x2 :: .ref (ad Γ x1) :: .ref (ad Γ 23) :: rest) I J :=
  wp_callV (As := [.ref (ad Γ x1), .int x2]) (rest := rest) (T := TX7) (N := 2) X hd hlink mv_X7_fillNext sh_23 (by decide) rfl (c_Tally_fillNext X.inj hx1 h) rfl rfl hrest hdd (fun v I' J' hv => by obtain ⟨rfl, hq⟩ := hv; exact kk I' J' hq)
theorem dX7_wordsOfLength_0 : decode cX7_wordsOfLength 0 = .ok (.aload_n 0, 1) := by decide +kernel
theorem dX7_wordsOfLength_1 : decode cX7_wordsOfLength 1 = .ok (.aload_n 1, 1) := by decide +kernel
theorem dX7_wordsOfLength_2 : decode cX7_wordsOfLength 2 = .ok (.iload_n 2, 1) := by decide +kernel
theorem dX7_wordsOfLength_3 : decode cX7_wordsOfLength 3 = .ok (.invokevirtual 19, 3) := by decide +kernel
theorem dX7_wordsOfLength_6 : decode cX7_wordsOfLength 6 = .ok (.iconst 1, 1) := by decide +kernel
theorem dX7_wordsOfLength_7 : decode cX7_wordsOfLength 7 = .ok (.istore 4, 2) := by decide +kernel
theorem dX7_wordsOfLength_9 : decode cX7_wordsOfLength 9 = .ok (.iload 4, 2) := by decide +kernel
theorem dX7_wordsOfLength_11 : decode cX7_wordsOfLength 11 = .ok (.iload_n 3, 1) := by decide +kernel
theorem dX7_wordsOfLength_12 : decode cX7_wordsOfLength 12 = .ok (.if_icmp .gt 16, 3) := by decide +kernel
theorem dX7_wordsOfLength_15 : decode cX7_wordsOfLength 15 = .ok (.aload_n 0, 1) := by decide +kernel
theorem dX7_wordsOfLength_16 : decode cX7_wordsOfLength 16 = .ok (.aload_n 1, 1) := by decide +kernel
theorem dX7_wordsOfLength_17 : decode cX7_wordsOfLength 17 = .ok (.iload 4, 2) := by decide +kernel
theorem dX7_wordsOfLength_19 : decode cX7_wordsOfLength 19 = .ok (.invokevirtual 23, 3) := by decide +kernel
theorem dX7_wordsOfLength_22 : decode cX7_wordsOfLength 22 = .ok (.iinc 4 1, 3) := by decide +kernel
theorem dX7_wordsOfLength_25 : decode cX7_wordsOfLength 25 = .ok (.goto (-16), 3) := by decide +kernel
theorem dX7_wordsOfLength_28 : decode cX7_wordsOfLength 28 = .ok (.aload_n 0, 1) := by decide +kernel
theorem dX7_wordsOfLength_29 : decode cX7_wordsOfLength 29 = .ok (.iload_n 3, 1) := by decide +kernel
theorem dX7_wordsOfLength_30 : decode cX7_wordsOfLength 30 = .ok (.iconst 0, 1) := by decide +kernel
theorem dX7_wordsOfLength_31 : decode cX7_wordsOfLength 31 = .ok (.invokevirtual 26, 3) := by decide +kernel
theorem dX7_wordsOfLength_34 : decode cX7_wordsOfLength 34 = .ok (.lreturn, 1) := by decide +kernel
def f_Tally_wordsOfLength_L9 (x1 : Nat) (x3 : Int32) (k28 : MI → MJ → Prop) : Nat → Int32 → MI → MJ → Prop
  | 0, _, _, _ => False
  | nf9 + 1, x4, I, J =>
  (if x3 < x4 then k28 I J else f_Tally_fillNext x1 x4 I J (fun I19 J19 => ∀ t22 : Int32, t22 = x4 + 1 → f_Tally_wordsOfLength_L9 x1 x3 k28 nf9 t22 I19 J19))
def f_Tally_wordsOfLength (x1 : Nat) (x2 : Int32) (x3 : Int32) (I : MI) (J : MJ) (Q : Int64 → MI → MJ → Prop) : Prop :=
  f_Tally_fillFirst x1 x2 I J (fun I3 J3 => ∃ n, f_Tally_wordsOfLength_L9 x1 x3 (fun (I : MI) (J : MJ) => f_Tally_waysFrom x3 (0 : Int32) I J (fun r31 I31 J31 => Q r31 I31 J31)) n 1 I3 J3)
set_option maxRecDepth 100000 in
set_option maxHeartbeats 4000000 in
theorem w_Tally_wordsOfLength_L9 {Γ : Ctx} {Q : Int64 → MI → MJ → Prop} {x1 : Nat} {x3 : Int32} {k28 : MI → MJ → Prop} (X : Cx Γ cX7_wordsOfLength 5 RX7 3) (Y : Rt Γ (Pl Q) (Option.some Jvm.ClassFile.FieldType.long)) (hx1 : okM x1) (hk28 : ∀ (I : MI) (J : MJ), k28 I J → Wp Γ 5 28 [(0, .ref (ad Γ 23)), (3, .int x3)] [] I J) : ∀ (n : Nat) (x4 : Int32) (I : MI) (J : MJ), f_Tally_wordsOfLength_L9 x1 x3 k28 n x4 I J → Wp Γ 5 9 [(0, .ref (ad Γ 23)), (1, .ref (ad Γ x1)), (3, .int x3), (4, .int x4)] [] I J := by
  intro n
  induction n with
  | zero => intro x4 I J h; exact absurd h (by simp [f_Tally_wordsOfLength_L9])
  | succ n ih =>
  intro x4 I J h
  unfold f_Tally_wordsOfLength_L9 at h
  refine wp_iload X dX7_wordsOfLength_9 3 rfl ?_
  refine wp_iload_n X dX7_wordsOfLength_11 2 rfl ?_
  refine wp_icmp_gt (tgt := 28) X dX7_wordsOfLength_12 (by decide) (fun hc => ?_) (fun hc => ?_)
  · have h := ite_t h hc
    refine wp_sub X [0, 2] rfl ?_
    exact hk28 _ _ h
  · have h := ite_f h hc
    refine wp_aload_n X dX7_wordsOfLength_15 0 rfl ?_
    refine wp_aload_n X dX7_wordsOfLength_16 1 rfl ?_
    refine wp_iload X dX7_wordsOfLength_17 3 rfl ?_
    refine cv_Tally_fillNext X dX7_wordsOfLength_19 ml_X7_23 hx1 h (Nat.le_of_ble_eq_true rfl) (by decide) (fun I19 J19 h => ?_)
    obtain ⟨t22, et22⟩ : ∃ y : Int32, y = x4 + 1 := ⟨_, rfl⟩
    have h := h t22 et22
    refine wp_iinc (L' := [(4, .int t22), (0, .ref (ad Γ 23)), (1, .ref (ad Γ x1)), (3, .int x3)]) X dX7_wordsOfLength_22 3 rfl (ii_1 et22) (by decide) rfl ?_
    refine wp_goto (tgt := 9) X dX7_wordsOfLength_25 (by decide) ?_
    refine wp_sub X [1, 2, 3, 0] rfl ?_
    exact ih _ _ _ h

set_option maxRecDepth 100000 in
set_option maxHeartbeats 4000000 in
theorem w_Tally_wordsOfLength_b0 {Γ : Ctx} {Q : Int64 → MI → MJ → Prop} {x1 : Nat} {x2 : Int32} {x3 : Int32}  (X : Cx Γ cX7_wordsOfLength 5 RX7 3) (Y : Rt Γ (Pl Q) (Option.some Jvm.ClassFile.FieldType.long)) (hx1 : okM x1)  {I : MI} {J : MJ} (h : f_Tally_wordsOfLength x1 x2 x3 I J Q) : Wp Γ 5 0 [(0, .ref (ad Γ 23)), (1, .ref (ad Γ x1)), (2, .int x2), (3, .int x3)] [] I J := by
  unfold f_Tally_wordsOfLength at h
  refine wp_aload_n X dX7_wordsOfLength_0 0 rfl ?_
  refine wp_aload_n X dX7_wordsOfLength_1 1 rfl ?_
  refine wp_iload_n X dX7_wordsOfLength_2 2 rfl ?_
  refine cv_Tally_fillFirst X dX7_wordsOfLength_3 ml_X7_19 hx1 h (Nat.le_of_ble_eq_true rfl) (by decide) (fun I3 J3 h => ?_)
  refine wp_iconst X dX7_wordsOfLength_6 ic_1 ?_
  refine wp_istore (L' := [(4, .int 1), (0, .ref (ad Γ 23)), (1, .ref (ad Γ x1)), (2, .int x2), (3, .int x3)]) X dX7_wordsOfLength_7 (by decide) rfl ?_
  obtain ⟨n, h⟩ := h
  refine wp_sub X [1, 2, 4, 0] rfl ?_
  refine w_Tally_wordsOfLength_L9 X Y hx1 ?_ n _ _ _ h
  · intro I J h
    refine wp_aload_n X dX7_wordsOfLength_28 0 rfl ?_
    refine wp_iload_n X dX7_wordsOfLength_29 1 rfl ?_
    refine wp_iconst X dX7_wordsOfLength_30 ic_0 ?_
    refine cv_Tally_waysFrom X dX7_wordsOfLength_31 ml_X7_26  h (Nat.le_of_ble_eq_true rfl) (by decide) (fun r31 I31 J31 h => ?_)
    exact wp_lret X Y dX7_wordsOfLength_34 ⟨_, rfl, h⟩

theorem c_Tally_wordsOfLength {l : Launch} {g : GE} (hg : Inj g) {I : MI} {J : MJ} {Q : Int64 → MI → MJ → Prop} {x1 : Nat} {x2 : Int32} {x3 : Int32} (hx1 : okM x1) (h : f_Tally_wordsOfLength x1 x2 x3 I J Q) : Cm l g yX7_wordsOfLength cX7_wordsOfLength 5 (Option.some Jvm.ClassFile.FieldType.long) 3 [.ref (g.1 23), .ref (g.1 x1), .int x2, .int x3] I J (Pl Q) := by
  refine Cm.of (As := fun ad => [.ref (ad 23), .ref (ad x1), .int x2, .int x3]) hg pn_X7 (Nat.le_of_ble_eq_true rfl) ?_
  exact (fun Γ _ _ X Y => w_Tally_wordsOfLength_b0 X Y hx1 h)
theorem cv_Tally_wordsOfLength {Γ : Ctx} {cc : ByteArray} {nL d pc index : Nat} {own : String} {L : List (Nat × Value)} {rest : List Value} {I : MI} {J : MJ} {Q : Int64 → MI → MJ → Prop} {x1 : Nat} {x2 : Int32} {x3 : Int32} (X : Cx Γ cc nL own d) (hd : decode cc pc = .ok (.invokevirtual index, 3)) (hlink : Cond.methodLink own index yX7_wordsOfLength ∈ TT) (hx1 : okM x1) (h : f_Tally_wordsOfLength x1 x2 x3 I J Q) (hrest : (rest.map fun v => v.category).sum ≤ 8) (hdd : 3 + 1 ≤ d) (kk : ∀ (r : Int64) (I' : MI) (J' : MJ), Q r I' J' → Wp Γ nL (pc + 3) L (.long r :: rest) I' J') : Wp Γ nL pc L (.int x3 :: .int x2 :: .ref (ad Γ x1) :: .ref (ad Γ 23) :: rest) I J :=
  wp_callV (As := [.ref (ad Γ x1), .int x2, .int x3]) (rest := rest) (T := TX7) (N := 2) X hd hlink mv_X7_wordsOfLength sh_23 (by decide) rfl (c_Tally_wordsOfLength X.inj hx1 h) rfl rfl hrest hdd (fun v I' J' hv => by obtain ⟨r, rfl, hq⟩ := hv; exact kk r I' J' hq)
theorem dX10_count_0 : decode cX10_count 0 = .ok (.aload_n 0, 1) := by decide +kernel
theorem dX10_count_1 : decode cX10_count 1 = .ok (.iload_n 1, 1) := by decide +kernel
theorem dX10_count_2 : decode cX10_count 2 = .ok (.invokevirtual 162, 3) := by decide +kernel
theorem dX10_count_5 : decode cX10_count 5 = .ok (.astore 4, 2) := by decide +kernel
theorem dX10_count_7 : decode cX10_count 7 = .ok (.aload 4, 2) := by decide +kernel
theorem dX10_count_9 : decode cX10_count 9 = .ok (.ifnull 20, 3) := by decide +kernel
theorem dX10_count_12 : decode cX10_count 12 = .ok (.iload_n 2, 1) := by decide +kernel
theorem dX10_count_13 : decode cX10_count 13 = .ok (.invokestatic 180, 3) := by decide +kernel
theorem dX10_count_16 : decode cX10_count 16 = .ok (.ifCond .eq 13, 3) := by decide +kernel
theorem dX10_count_19 : decode cX10_count 19 = .ok (.iload_n 3, 1) := by decide +kernel
theorem dX10_count_20 : decode cX10_count 20 = .ok (.ifCond .lt 9, 3) := by decide +kernel
theorem dX10_count_23 : decode cX10_count 23 = .ok (.iload_n 3, 1) := by decide +kernel
theorem dX10_count_24 : decode cX10_count 24 = .ok (.bipush 30, 2) := by decide +kernel
theorem dX10_count_26 : decode cX10_count 26 = .ok (.if_icmp .le 7, 3) := by decide +kernel
theorem dX10_count_29 : decode cX10_count 29 = .ok (.ldc2_w 183, 3) := by decide +kernel
theorem dX10_count_32 : decode cX10_count 32 = .ok (.lreturn, 1) := by decide +kernel
theorem dX10_count_33 : decode cX10_count 33 = .ok (.aload_n 0, 1) := by decide +kernel
theorem dX10_count_34 : decode cX10_count 34 = .ok (.getfield 32, 3) := by decide +kernel
theorem dX10_count_37 : decode cX10_count 37 = .ok (.aload 4, 2) := by decide +kernel
theorem dX10_count_39 : decode cX10_count 39 = .ok (.iload_n 2, 1) := by decide +kernel
theorem dX10_count_40 : decode cX10_count 40 = .ok (.iload_n 3, 1) := by decide +kernel
theorem dX10_count_41 : decode cX10_count 41 = .ok (.invokevirtual 185, 3) := by decide +kernel
theorem dX10_count_44 : decode cX10_count 44 = .ok (.lreturn, 1) := by decide +kernel
def f_School_count (x1 : Int32) (x2 : Int32) (x3 : Int32) (I : MI) (J : MJ) (Q : Int64 → MI → MJ → Prop) : Prop :=
  f_School_machineAt x1 I J (fun r2 I2 J2 => (match r2 with | none => Q (-1) I2 J2 | some a9 => okM a9 ∧ f_School_isAnswer x2 I2 J2 (fun r13 I13 J13 => (if r13 = 0 then Q (-1) I13 J13 else (if x3 < 0 then Q (-1) I13 J13 else (if x3 ≤ 30 then f_Tally_wordsOfLength a9 x2 x3 I13 J13 (fun r41 I41 J41 => Q r41 I41 J41) else Q (-1) I13 J13))))))
set_option maxRecDepth 100000 in
set_option maxHeartbeats 4000000 in
theorem w_School_count_b0 {Γ : Ctx} {Q : Int64 → MI → MJ → Prop} {x1 : Int32} {x2 : Int32} {x3 : Int32}  (X : Cx Γ cX10_count 5 RX10 4) (Y : Rt Γ (Pl Q) (Option.some Jvm.ClassFile.FieldType.long))   {I : MI} {J : MJ} (h : f_School_count x1 x2 x3 I J Q) : Wp Γ 5 0 [(0, .ref (ad Γ 0)), (1, .int x1), (2, .int x2), (3, .int x3)] [] I J := by
  unfold f_School_count at h
  refine wp_aload_n X dX10_count_0 0 rfl ?_
  refine wp_iload_n X dX10_count_1 1 rfl ?_
  refine cv_School_machineAt X dX10_count_2 ml_X10_162  h (Nat.le_of_ble_eq_true rfl) (by decide) (fun r2 I2 J2 h => ?_)
  refine wp_astoreQ (L' := [(4, rfN (ad Γ) r2), (0, .ref (ad Γ 0)), (1, .int x1), (2, .int x2), (3, .int x3)]) X dX10_count_5 (by decide) rfl ?_
  refine wp_aloadQ X dX10_count_7 0 rfl ?_
  refine wp_ifnull (q := r2) (tgt := 29) X dX10_count_9 (by decide) ?_ ?_
  · intro hq; subst hq
    refine wp_ldc2 X kl_X10_183 dX10_count_29 ?_
    exact wp_lret X Y dX10_count_32 ⟨_, rfl, h⟩
  · intro a9 hq; subst hq; obtain ⟨oka9, h⟩ := h
    refine wp_iload_n X dX10_count_12 3 rfl ?_
    refine cs_School_isAnswer X dX10_count_13 ml_X10_180  h (Nat.le_of_ble_eq_true rfl) (by decide) (fun r13 I13 J13 h => ?_)
    refine wp_if_eq (tgt := 29) X dX10_count_16 (by decide) (fun hc => ?_) (fun hc => ?_)
    · have h := ite_t h hc
      refine wp_ldc2 X kl_X10_183 dX10_count_29 ?_
      exact wp_lret X Y dX10_count_32 ⟨_, rfl, h⟩
    · have h := ite_f h hc
      refine wp_iload_n X dX10_count_19 4 rfl ?_
      refine wp_if_lt (tgt := 29) X dX10_count_20 (by decide) (fun hc => ?_) (fun hc => ?_)
      · have h := ite_t h hc
        refine wp_ldc2 X kl_X10_183 dX10_count_29 ?_
        exact wp_lret X Y dX10_count_32 ⟨_, rfl, h⟩
      · have h := ite_f h hc
        refine wp_iload_n X dX10_count_23 4 rfl ?_
        refine wp_bipush X dX10_count_24 bi_30 ?_
        refine wp_icmp_le (tgt := 33) X dX10_count_26 (by decide) (fun hc => ?_) (fun hc => ?_)
        · have h := ite_t h hc
          refine wp_aload_n X dX10_count_33 1 rfl ?_
          refine gf_X10_32 (o' := 23) X sh_0 rfl dX10_count_34 ?_
          refine wp_aload X dX10_count_37 0 rfl ?_
          refine wp_iload_n X dX10_count_39 3 rfl ?_
          refine wp_iload_n X dX10_count_40 4 rfl ?_
          refine cv_Tally_wordsOfLength X dX10_count_41 ml_X10_185 oka9 h (Nat.le_of_ble_eq_true rfl) (by decide) (fun r41 I41 J41 h => ?_)
          exact wp_lret X Y dX10_count_44 ⟨_, rfl, h⟩
        · have h := ite_f h hc
          refine wp_ldc2 X kl_X10_183 dX10_count_29 ?_
          exact wp_lret X Y dX10_count_32 ⟨_, rfl, h⟩

theorem c_School_count {l : Launch} {g : GE} (hg : Inj g) {I : MI} {J : MJ} {Q : Int64 → MI → MJ → Prop} {x1 : Int32} {x2 : Int32} {x3 : Int32}  (h : f_School_count x1 x2 x3 I J Q) : Cm l g yX10_count cX10_count 5 (Option.some Jvm.ClassFile.FieldType.long) 4 [.ref (g.1 0), .int x1, .int x2, .int x3] I J (Pl Q) := by
  refine Cm.of (As := fun ad => [.ref (ad 0), .int x1, .int x2, .int x3]) hg pn_X10 (Nat.le_of_ble_eq_true rfl) ?_
  exact (fun Γ _ _ X Y => w_School_count_b0 X Y  h)
theorem cv_School_count {Γ : Ctx} {cc : ByteArray} {nL d pc index : Nat} {own : String} {L : List (Nat × Value)} {rest : List Value} {I : MI} {J : MJ} {Q : Int64 → MI → MJ → Prop} {x1 : Int32} {x2 : Int32} {x3 : Int32} (X : Cx Γ cc nL own d) (hd : decode cc pc = .ok (.invokevirtual index, 3)) (hlink : Cond.methodLink own index yX10_count ∈ TT)  (h : f_School_count x1 x2 x3 I J Q) (hrest : (rest.map fun v => v.category).sum ≤ 8) (hdd : 4 + 1 ≤ d) (kk : ∀ (r : Int64) (I' : MI) (J' : MJ), Q r I' J' → Wp Γ nL (pc + 3) L (.long r :: rest) I' J') : Wp Γ nL pc L (.int x3 :: .int x2 :: .int x1 :: .ref (ad Γ 0) :: rest) I J :=
  wp_callV (As := [.int x1, .int x2, .int x3]) (rest := rest) (T := TX10) (N := 9) X hd hlink mv_X10_count sh_0 (by decide) rfl (c_School_count X.inj  h) rfl rfl hrest hdd (fun v I' J' hv => by obtain ⟨r, rfl, hq⟩ := hv; exact kk r I' J' hq)
theorem dX7_spelled_0 : decode cX7_spelled 0 = .ok (.lconst 1, 1) := by decide +kernel
theorem dX7_spelled_1 : decode cX7_spelled 1 = .ok (.lstore 5, 2) := by decide +kernel
theorem dX7_spelled_3 : decode cX7_spelled 3 = .ok (.lload_n 3, 1) := by decide +kernel
theorem dX7_spelled_4 : decode cX7_spelled 4 = .ok (.lstore 7, 2) := by decide +kernel
theorem dX7_spelled_6 : decode cX7_spelled 6 = .ok (.iconst 0, 1) := by decide +kernel
theorem dX7_spelled_7 : decode cX7_spelled 7 = .ok (.istore 9, 2) := by decide +kernel
theorem dX7_spelled_9 : decode cX7_spelled 9 = .ok (.iload_n 2, 1) := by decide +kernel
theorem dX7_spelled_10 : decode cX7_spelled 10 = .ok (.iconst 1, 1) := by decide +kernel
theorem dX7_spelled_11 : decode cX7_spelled 11 = .ok (.isub, 1) := by decide +kernel
theorem dX7_spelled_12 : decode cX7_spelled 12 = .ok (.istore 10, 2) := by decide +kernel
theorem dX7_spelled_14 : decode cX7_spelled 14 = .ok (.iload 10, 2) := by decide +kernel
theorem dX7_spelled_16 : decode cX7_spelled 16 = .ok (.ifCond .lt 93, 3) := by decide +kernel
theorem dX7_spelled_19 : decode cX7_spelled 19 = .ok (.iconst 0, 1) := by decide +kernel
theorem dX7_spelled_20 : decode cX7_spelled 20 = .ok (.istore 11, 2) := by decide +kernel
theorem dX7_spelled_22 : decode cX7_spelled 22 = .ok (.aload_n 0, 1) := by decide +kernel
theorem dX7_spelled_23 : decode cX7_spelled 23 = .ok (.iload 10, 2) := by decide +kernel
theorem dX7_spelled_25 : decode cX7_spelled 25 = .ok (.aload_n 1, 1) := by decide +kernel
theorem dX7_spelled_26 : decode cX7_spelled 26 = .ok (.iload 9, 2) := by decide +kernel
theorem dX7_spelled_28 : decode cX7_spelled 28 = .ok (.iload 11, 2) := by decide +kernel
theorem dX7_spelled_30 : decode cX7_spelled 30 = .ok (.invokevirtual 51, 3) := by decide +kernel
theorem dX7_spelled_33 : decode cX7_spelled 33 = .ok (.invokevirtual 26, 3) := by decide +kernel
theorem dX7_spelled_36 : decode cX7_spelled 36 = .ok (.lstore 12, 2) := by decide +kernel
theorem dX7_spelled_38 : decode cX7_spelled 38 = .ok (.iload 11, 2) := by decide +kernel
theorem dX7_spelled_40 : decode cX7_spelled 40 = .ok (.iconst 3, 1) := by decide +kernel
theorem dX7_spelled_41 : decode cX7_spelled 41 = .ok (.if_icmp .ge 40, 3) := by decide +kernel
theorem dX7_spelled_44 : decode cX7_spelled 44 = .ok (.lload 7, 2) := by decide +kernel
theorem dX7_spelled_46 : decode cX7_spelled 46 = .ok (.lload 12, 2) := by decide +kernel
theorem dX7_spelled_48 : decode cX7_spelled 48 = .ok (.lcmp, 1) := by decide +kernel
theorem dX7_spelled_49 : decode cX7_spelled 49 = .ok (.ifCond .lt 32, 3) := by decide +kernel
theorem dX7_spelled_52 : decode cX7_spelled 52 = .ok (.lload 7, 2) := by decide +kernel
theorem dX7_spelled_54 : decode cX7_spelled 54 = .ok (.lload 12, 2) := by decide +kernel
theorem dX7_spelled_56 : decode cX7_spelled 56 = .ok (.lsub, 1) := by decide +kernel
theorem dX7_spelled_57 : decode cX7_spelled 57 = .ok (.lstore 7, 2) := by decide +kernel
theorem dX7_spelled_59 : decode cX7_spelled 59 = .ok (.iinc 11 1, 3) := by decide +kernel
theorem dX7_spelled_62 : decode cX7_spelled 62 = .ok (.aload_n 0, 1) := by decide +kernel
theorem dX7_spelled_63 : decode cX7_spelled 63 = .ok (.iload 10, 2) := by decide +kernel
theorem dX7_spelled_65 : decode cX7_spelled 65 = .ok (.aload_n 1, 1) := by decide +kernel
theorem dX7_spelled_66 : decode cX7_spelled 66 = .ok (.iload 9, 2) := by decide +kernel
theorem dX7_spelled_68 : decode cX7_spelled 68 = .ok (.iload 11, 2) := by decide +kernel
theorem dX7_spelled_70 : decode cX7_spelled 70 = .ok (.invokevirtual 51, 3) := by decide +kernel
theorem dX7_spelled_73 : decode cX7_spelled 73 = .ok (.invokevirtual 26, 3) := by decide +kernel
theorem dX7_spelled_76 : decode cX7_spelled 76 = .ok (.lstore 12, 2) := by decide +kernel
theorem dX7_spelled_78 : decode cX7_spelled 78 = .ok (.goto (-40), 3) := by decide +kernel
theorem dX7_spelled_81 : decode cX7_spelled 81 = .ok (.ldc2_w 70, 3) := by decide +kernel
theorem dX7_spelled_84 : decode cX7_spelled 84 = .ok (.lload 5, 2) := by decide +kernel
theorem dX7_spelled_86 : decode cX7_spelled 86 = .ok (.lmul, 1) := by decide +kernel
theorem dX7_spelled_87 : decode cX7_spelled 87 = .ok (.iload 11, 2) := by decide +kernel
theorem dX7_spelled_89 : decode cX7_spelled 89 = .ok (.i2l, 1) := by decide +kernel
theorem dX7_spelled_90 : decode cX7_spelled 90 = .ok (.ladd, 1) := by decide +kernel
theorem dX7_spelled_91 : decode cX7_spelled 91 = .ok (.lstore 5, 2) := by decide +kernel
theorem dX7_spelled_93 : decode cX7_spelled 93 = .ok (.aload_n 1, 1) := by decide +kernel
theorem dX7_spelled_94 : decode cX7_spelled 94 = .ok (.iload 9, 2) := by decide +kernel
theorem dX7_spelled_96 : decode cX7_spelled 96 = .ok (.iload 11, 2) := by decide +kernel
theorem dX7_spelled_98 : decode cX7_spelled 98 = .ok (.invokevirtual 51, 3) := by decide +kernel
theorem dX7_spelled_101 : decode cX7_spelled 101 = .ok (.istore 9, 2) := by decide +kernel
theorem dX7_spelled_103 : decode cX7_spelled 103 = .ok (.iinc 10 (-1), 3) := by decide +kernel
theorem dX7_spelled_106 : decode cX7_spelled 106 = .ok (.goto (-92), 3) := by decide +kernel
theorem dX7_spelled_109 : decode cX7_spelled 109 = .ok (.lload 5, 2) := by decide +kernel
theorem dX7_spelled_111 : decode cX7_spelled 111 = .ok (.lreturn, 1) := by decide +kernel
def f_Tally_spelled_b81 (x1 : Nat) (x5 : Int64) (x7 : Int64) (x9 : Int32) (x10 : Int32) (x11 : Int32) (kh : Int64 → Int64 → Int32 → Int32 → MI → MJ → Prop) (I : MI) (J : MJ) : Prop :=
  ∀ t91 : Int64, t91 = (4 * x5) + x11.toInt64 → f_Machine_nextKey x1 x9 x11 I J (fun r98 I98 J98 => ∀ t103 : Int32, t103 = x10 + (-1) → kh t91 x7 r98 t103 I98 J98)
def f_Tally_spelled_L38 (x1 : Nat) (x9 : Int32) (x10 : Int32) (k81 : Int64 → Int32 → MI → MJ → Prop) : Nat → Int64 → Int32 → Int64 → MI → MJ → Prop
  | 0, _, _, _, _, _ => False
  | nf38 + 1, x7, x11, x12, I, J =>
  (if 3 ≤ x11 then k81 x7 x11 I J else (if x7 < x12 then k81 x7 x11 I J else ∀ t57 : Int64, t57 = x7 - x12 → ∀ t59 : Int32, t59 = x11 + 1 → f_Machine_nextKey x1 x9 t59 I J (fun r70 I70 J70 => f_Tally_waysFrom x10 r70 I70 J70 (fun r73 I73 J73 => f_Tally_spelled_L38 x1 x9 x10 k81 nf38 t57 t59 r73 I73 J73))))
def f_Tally_spelled_L14 (x1 : Nat) (k109 : Int64 → MI → MJ → Prop) : Nat → Int64 → Int64 → Int32 → Int32 → MI → MJ → Prop
  | 0, _, _, _, _, _, _ => False
  | nf14 + 1, x5, x7, x9, x10, I, J =>
  (if x10 < 0 then k109 x5 I J else f_Machine_nextKey x1 x9 (0 : Int32) I J (fun r30 I30 J30 => f_Tally_waysFrom x10 r30 I30 J30 (fun r33 I33 J33 => ∃ n, f_Tally_spelled_L38 x1 x9 x10 (fun (z81_x7 : Int64) (z81_x11 : Int32) (I : MI) (J : MJ) => f_Tally_spelled_b81 x1 x5 z81_x7 x9 x10 z81_x11 (f_Tally_spelled_L14 x1 k109 nf14) I J) n x7 0 r33 I33 J33)))
def f_Tally_spelled (x1 : Nat) (x2 : Int32) (x3 : Int64) (I : MI) (J : MJ) (Q : Int64 → MI → MJ → Prop) : Prop :=
  ∀ t12 : Int32, t12 = x2 - 1 → ∃ n, f_Tally_spelled_L14 x1 (fun (z109_x5 : Int64) (I : MI) (J : MJ) => Q z109_x5 I J) n 1 x3 0 t12 I J
set_option maxRecDepth 100000 in
set_option maxHeartbeats 4000000 in
theorem w_Tally_spelled_b81 {Γ : Ctx} {Q : Int64 → MI → MJ → Prop} {x1 : Nat} {x5 : Int64} {x7 : Int64} {x9 : Int32} {x10 : Int32} {x11 : Int32} {kh : Int64 → Int64 → Int32 → Int32 → MI → MJ → Prop} (X : Cx Γ cX7_spelled 14 RX7 2) (Y : Rt Γ (Pl Q) (Option.some Jvm.ClassFile.FieldType.long)) (hx1 : okM x1) (hkh : ∀ (x5 : Int64) (x7 : Int64) (x9 : Int32) (x10 : Int32) (I : MI) (J : MJ), kh x5 x7 x9 x10 I J → Wp Γ 14 14 [(0, .ref (ad Γ 23)), (1, .ref (ad Γ x1)), (5, .long x5), (7, .long x7), (9, .int x9), (10, .int x10)] [] I J) {I : MI} {J : MJ} (h : f_Tally_spelled_b81 x1 x5 x7 x9 x10 x11 kh I J) : Wp Γ 14 81 [(0, .ref (ad Γ 23)), (1, .ref (ad Γ x1)), (5, .long x5), (7, .long x7), (9, .int x9), (10, .int x10), (11, .int x11)] [] I J := by
  unfold f_Tally_spelled_b81 at h
  refine wp_ldc2 X kl_X7_70 dX7_spelled_81 ?_
  refine wp_lload X dX7_spelled_84 2 rfl ?_
  refine wp_lmul X dX7_spelled_86 ?_
  refine wp_iload X dX7_spelled_87 6 rfl ?_
  refine wp_i2l X dX7_spelled_89 ?_
  refine wp_ladd X dX7_spelled_90 ?_
  refine wp_topl (fun t91 et91 => ?_)
  have h := h t91 et91
  refine wp_lstore (L' := [(5, .long t91), (0, .ref (ad Γ 23)), (1, .ref (ad Γ x1)), (7, .long x7), (9, .int x9), (10, .int x10), (11, .int x11)]) X dX7_spelled_91 (by decide) rfl ?_
  refine wp_aload_n X dX7_spelled_93 2 rfl ?_
  refine wp_iload X dX7_spelled_94 4 rfl ?_
  refine wp_iload X dX7_spelled_96 6 rfl ?_
  refine cv_Machine_nextKey X dX7_spelled_98 ml_X7_51 hx1 h (Nat.le_of_ble_eq_true rfl) (by decide) (fun r98 I98 J98 h => ?_)
  refine wp_istore (L' := [(9, .int r98), (5, .long t91), (0, .ref (ad Γ 23)), (1, .ref (ad Γ x1)), (7, .long x7), (10, .int x10), (11, .int x11)]) X dX7_spelled_101 (by decide) rfl ?_
  obtain ⟨t103, et103⟩ : ∃ y : Int32, y = x10 + (-1) := ⟨_, rfl⟩
  have h := h t103 et103
  refine wp_iinc (L' := [(10, .int t103), (9, .int r98), (5, .long t91), (0, .ref (ad Γ 23)), (1, .ref (ad Γ x1)), (7, .long x7), (11, .int x11)]) X dX7_spelled_103 5 rfl (ii_m1 et103) (by decide) rfl ?_
  refine wp_goto (tgt := 14) X dX7_spelled_106 (by decide) ?_
  refine wp_sub X [3, 4, 2, 5, 1, 0] rfl ?_
  exact hkh _ _ _ _ _ _ h

set_option maxRecDepth 100000 in
set_option maxHeartbeats 4000000 in
theorem w_Tally_spelled_L38 {Γ : Ctx} {Q : Int64 → MI → MJ → Prop} {x1 : Nat} {x5 : Int64} {x9 : Int32} {x10 : Int32} {k81 : Int64 → Int32 → MI → MJ → Prop} (X : Cx Γ cX7_spelled 14 RX7 2) (Y : Rt Γ (Pl Q) (Option.some Jvm.ClassFile.FieldType.long)) (hx1 : okM x1) (hk81 : ∀ (x7 : Int64) (x11 : Int32) (I : MI) (J : MJ), k81 x7 x11 I J → Wp Γ 14 81 [(0, .ref (ad Γ 23)), (1, .ref (ad Γ x1)), (5, .long x5), (7, .long x7), (9, .int x9), (10, .int x10), (11, .int x11)] [] I J) : ∀ (n : Nat) (x7 : Int64) (x11 : Int32) (x12 : Int64) (I : MI) (J : MJ), f_Tally_spelled_L38 x1 x9 x10 k81 n x7 x11 x12 I J → Wp Γ 14 38 [(0, .ref (ad Γ 23)), (1, .ref (ad Γ x1)), (5, .long x5), (7, .long x7), (9, .int x9), (10, .int x10), (11, .int x11), (12, .long x12)] [] I J := by
  intro n
  induction n with
  | zero => intro x7 x11 x12 I J h; exact absurd h (by simp [f_Tally_spelled_L38])
  | succ n ih =>
  intro x7 x11 x12 I J h
  unfold f_Tally_spelled_L38 at h
  refine wp_iload X dX7_spelled_38 6 rfl ?_
  refine wp_iconst X dX7_spelled_40 ic_3 ?_
  refine wp_icmp_ge (tgt := 81) X dX7_spelled_41 (by decide) (fun hc => ?_) (fun hc => ?_)
  · have h := ite_t h hc
    refine wp_sub X [0, 1, 2, 3, 4, 5, 6] rfl ?_
    exact hk81 _ _ _ _ h
  · have h := ite_f h hc
    refine wp_lload X dX7_spelled_44 3 rfl ?_
    refine wp_lload X dX7_spelled_46 7 rfl ?_
    refine wp_lcmp_lt (tgt := 81) X dX7_spelled_48 dX7_spelled_49 (by decide) (fun hc => ?_) (fun hc => ?_)
    · have h := ite_t h hc
      refine wp_sub X [0, 1, 2, 3, 4, 5, 6] rfl ?_
      exact hk81 _ _ _ _ h
    · have h := ite_f h hc
      refine wp_lload X dX7_spelled_52 3 rfl ?_
      refine wp_lload X dX7_spelled_54 7 rfl ?_
      refine wp_lsub X dX7_spelled_56 ?_
      refine wp_topl (fun t57 et57 => ?_)
      have h := h t57 et57
      refine wp_lstore (L' := [(7, .long t57), (0, .ref (ad Γ 23)), (1, .ref (ad Γ x1)), (5, .long x5), (9, .int x9), (10, .int x10), (11, .int x11), (12, .long x12)]) X dX7_spelled_57 (by decide) rfl ?_
      obtain ⟨t59, et59⟩ : ∃ y : Int32, y = x11 + 1 := ⟨_, rfl⟩
      have h := h t59 et59
      refine wp_iinc (L' := [(11, .int t59), (7, .long t57), (0, .ref (ad Γ 23)), (1, .ref (ad Γ x1)), (5, .long x5), (9, .int x9), (10, .int x10), (12, .long x12)]) X dX7_spelled_59 6 rfl (ii_1 et59) (by decide) rfl ?_
      refine wp_aload_n X dX7_spelled_62 2 rfl ?_
      refine wp_iload X dX7_spelled_63 6 rfl ?_
      refine wp_aload_n X dX7_spelled_65 3 rfl ?_
      refine wp_iload X dX7_spelled_66 5 rfl ?_
      refine wp_iload X dX7_spelled_68 0 rfl ?_
      refine cv_Machine_nextKey X dX7_spelled_70 ml_X7_51 hx1 h (Nat.le_of_ble_eq_true rfl) (by decide) (fun r70 I70 J70 h => ?_)
      refine cv_Tally_waysFrom X dX7_spelled_73 ml_X7_26  h (Nat.le_of_ble_eq_true rfl) (by decide) (fun r73 I73 J73 h => ?_)
      refine wp_lstore (L' := [(12, .long r73), (11, .int t59), (7, .long t57), (0, .ref (ad Γ 23)), (1, .ref (ad Γ x1)), (5, .long x5), (9, .int x9), (10, .int x10)]) X dX7_spelled_76 (by decide) rfl ?_
      refine wp_goto (tgt := 38) X dX7_spelled_78 (by decide) ?_
      refine wp_sub X [3, 4, 5, 2, 6, 7, 1, 0] rfl ?_
      exact ih _ _ _ _ _ h

set_option maxRecDepth 100000 in
set_option maxHeartbeats 4000000 in
theorem w_Tally_spelled_L14 {Γ : Ctx} {Q : Int64 → MI → MJ → Prop} {x1 : Nat} {k109 : Int64 → MI → MJ → Prop} (X : Cx Γ cX7_spelled 14 RX7 2) (Y : Rt Γ (Pl Q) (Option.some Jvm.ClassFile.FieldType.long)) (hx1 : okM x1) (hk109 : ∀ (x5 : Int64) (I : MI) (J : MJ), k109 x5 I J → Wp Γ 14 109 [(5, .long x5)] [] I J) : ∀ (n : Nat) (x5 : Int64) (x7 : Int64) (x9 : Int32) (x10 : Int32) (I : MI) (J : MJ), f_Tally_spelled_L14 x1 k109 n x5 x7 x9 x10 I J → Wp Γ 14 14 [(0, .ref (ad Γ 23)), (1, .ref (ad Γ x1)), (5, .long x5), (7, .long x7), (9, .int x9), (10, .int x10)] [] I J := by
  intro n
  induction n with
  | zero => intro x5 x7 x9 x10 I J h; exact absurd h (by simp [f_Tally_spelled_L14])
  | succ n ih =>
  intro x5 x7 x9 x10 I J h
  unfold f_Tally_spelled_L14 at h
  refine wp_iload X dX7_spelled_14 5 rfl ?_
  refine wp_if_lt (tgt := 109) X dX7_spelled_16 (by decide) (fun hc => ?_) (fun hc => ?_)
  · have h := ite_t h hc
    refine wp_sub X [2] rfl ?_
    exact hk109 _ _ _ h
  · have h := ite_f h hc
    refine wp_iconst X dX7_spelled_19 ic_0 ?_
    refine wp_istore (L' := [(11, .int 0), (0, .ref (ad Γ 23)), (1, .ref (ad Γ x1)), (5, .long x5), (7, .long x7), (9, .int x9), (10, .int x10)]) X dX7_spelled_20 (by decide) rfl ?_
    refine wp_aload_n X dX7_spelled_22 1 rfl ?_
    refine wp_iload X dX7_spelled_23 6 rfl ?_
    refine wp_aload_n X dX7_spelled_25 2 rfl ?_
    refine wp_iload X dX7_spelled_26 5 rfl ?_
    refine wp_iload X dX7_spelled_28 0 rfl ?_
    refine cv_Machine_nextKey X dX7_spelled_30 ml_X7_51 hx1 h (Nat.le_of_ble_eq_true rfl) (by decide) (fun r30 I30 J30 h => ?_)
    refine cv_Tally_waysFrom X dX7_spelled_33 ml_X7_26  h (Nat.le_of_ble_eq_true rfl) (by decide) (fun r33 I33 J33 h => ?_)
    refine wp_lstore (L' := [(12, .long r33), (11, .int 0), (0, .ref (ad Γ 23)), (1, .ref (ad Γ x1)), (5, .long x5), (7, .long x7), (9, .int x9), (10, .int x10)]) X dX7_spelled_36 (by decide) rfl ?_
    obtain ⟨n, h⟩ := h
    refine wp_sub X [2, 3, 4, 5, 6, 7, 1, 0] rfl ?_
    refine w_Tally_spelled_L38 X Y hx1 ?_ n _ _ _ _ _ h
    · intro z81_x7 z81_x11 I J h
      exact w_Tally_spelled_b81 X Y hx1 ih h

set_option maxRecDepth 100000 in
set_option maxHeartbeats 4000000 in
theorem w_Tally_spelled_b0 {Γ : Ctx} {Q : Int64 → MI → MJ → Prop} {x1 : Nat} {x2 : Int32} {x3 : Int64}  (X : Cx Γ cX7_spelled 14 RX7 2) (Y : Rt Γ (Pl Q) (Option.some Jvm.ClassFile.FieldType.long)) (hx1 : okM x1)  {I : MI} {J : MJ} (h : f_Tally_spelled x1 x2 x3 I J Q) : Wp Γ 14 0 [(0, .ref (ad Γ 23)), (1, .ref (ad Γ x1)), (2, .int x2), (3, .long x3)] [] I J := by
  unfold f_Tally_spelled at h
  refine wp_lconst X dX7_spelled_0 lc_1 ?_
  refine wp_lstore (L' := [(5, .long 1), (0, .ref (ad Γ 23)), (1, .ref (ad Γ x1)), (2, .int x2), (3, .long x3)]) X dX7_spelled_1 (by decide) rfl ?_
  refine wp_lload_n X dX7_spelled_3 4 rfl ?_
  refine wp_lstore (L' := [(7, .long x3), (5, .long 1), (0, .ref (ad Γ 23)), (1, .ref (ad Γ x1)), (2, .int x2), (3, .long x3)]) X dX7_spelled_4 (by decide) rfl ?_
  refine wp_iconst X dX7_spelled_6 ic_0 ?_
  refine wp_istore (L' := [(9, .int 0), (7, .long x3), (5, .long 1), (0, .ref (ad Γ 23)), (1, .ref (ad Γ x1)), (2, .int x2), (3, .long x3)]) X dX7_spelled_7 (by decide) rfl ?_
  refine wp_iload_n X dX7_spelled_9 5 rfl ?_
  refine wp_iconst X dX7_spelled_10 ic_1 ?_
  refine wp_isub X dX7_spelled_11 ?_
  refine wp_topi (fun t12 et12 => ?_)
  have h := h t12 et12
  refine wp_istore (L' := [(10, .int t12), (9, .int 0), (7, .long x3), (5, .long 1), (0, .ref (ad Γ 23)), (1, .ref (ad Γ x1)), (2, .int x2), (3, .long x3)]) X dX7_spelled_12 (by decide) rfl ?_
  obtain ⟨n, h⟩ := h
  refine wp_sub X [4, 5, 3, 2, 1, 0] rfl ?_
  refine w_Tally_spelled_L14 X Y hx1 ?_ n _ _ _ _ _ _ h
  · intro z109_x5 I J h
    refine wp_lload X dX7_spelled_109 0 rfl ?_
    exact wp_lret X Y dX7_spelled_111 ⟨_, rfl, h⟩

theorem c_Tally_spelled {l : Launch} {g : GE} (hg : Inj g) {I : MI} {J : MJ} {Q : Int64 → MI → MJ → Prop} {x1 : Nat} {x2 : Int32} {x3 : Int64} (hx1 : okM x1) (h : f_Tally_spelled x1 x2 x3 I J Q) : Cm l g yX7_spelled cX7_spelled 14 (Option.some Jvm.ClassFile.FieldType.long) 2 [.ref (g.1 23), .ref (g.1 x1), .int x2, .long x3] I J (Pl Q) := by
  refine Cm.of (As := fun ad => [.ref (ad 23), .ref (ad x1), .int x2, .long x3]) hg pn_X7 (Nat.le_of_ble_eq_true rfl) ?_
  exact (fun Γ _ _ X Y => w_Tally_spelled_b0 X Y hx1 h)
theorem cv_Tally_spelled {Γ : Ctx} {cc : ByteArray} {nL d pc index : Nat} {own : String} {L : List (Nat × Value)} {rest : List Value} {I : MI} {J : MJ} {Q : Int64 → MI → MJ → Prop} {x1 : Nat} {x2 : Int32} {x3 : Int64} (X : Cx Γ cc nL own d) (hd : decode cc pc = .ok (.invokevirtual index, 3)) (hlink : Cond.methodLink own index yX7_spelled ∈ TT) (hx1 : okM x1) (h : f_Tally_spelled x1 x2 x3 I J Q) (hrest : (rest.map fun v => v.category).sum ≤ 8) (hdd : 2 + 1 ≤ d) (kk : ∀ (r : Int64) (I' : MI) (J' : MJ), Q r I' J' → Wp Γ nL (pc + 3) L (.long r :: rest) I' J') : Wp Γ nL pc L (.long x3 :: .int x2 :: .ref (ad Γ x1) :: .ref (ad Γ 23) :: rest) I J :=
  wp_callV (As := [.ref (ad Γ x1), .int x2, .long x3]) (rest := rest) (T := TX7) (N := 2) X hd hlink mv_X7_spelled sh_23 (by decide) rfl (c_Tally_spelled X.inj hx1 h) rfl rfl hrest hdd (fun v I' J' hv => by obtain ⟨r, rfl, hq⟩ := hv; exact kk r I' J' hq)
theorem dX7_wordAt_0 : decode cX7_wordAt 0 = .ok (.lload_n 3, 1) := by decide +kernel
theorem dX7_wordAt_1 : decode cX7_wordAt 1 = .ok (.lstore 5, 2) := by decide +kernel
theorem dX7_wordAt_3 : decode cX7_wordAt 3 = .ok (.aload_n 0, 1) := by decide +kernel
theorem dX7_wordAt_4 : decode cX7_wordAt 4 = .ok (.aload_n 1, 1) := by decide +kernel
theorem dX7_wordAt_5 : decode cX7_wordAt 5 = .ok (.iload_n 2, 1) := by decide +kernel
theorem dX7_wordAt_6 : decode cX7_wordAt 6 = .ok (.invokevirtual 19, 3) := by decide +kernel
theorem dX7_wordAt_9 : decode cX7_wordAt 9 = .ok (.iconst 0, 1) := by decide +kernel
theorem dX7_wordAt_10 : decode cX7_wordAt 10 = .ok (.istore 7, 2) := by decide +kernel
theorem dX7_wordAt_12 : decode cX7_wordAt 12 = .ok (.iload 7, 2) := by decide +kernel
theorem dX7_wordAt_14 : decode cX7_wordAt 14 = .ok (.bipush 30, 2) := by decide +kernel
theorem dX7_wordAt_16 : decode cX7_wordAt 16 = .ok (.if_icmp .gt 55, 3) := by decide +kernel
theorem dX7_wordAt_19 : decode cX7_wordAt 19 = .ok (.iload 7, 2) := by decide +kernel
theorem dX7_wordAt_21 : decode cX7_wordAt 21 = .ok (.ifCond .le 10, 3) := by decide +kernel
theorem dX7_wordAt_24 : decode cX7_wordAt 24 = .ok (.aload_n 0, 1) := by decide +kernel
theorem dX7_wordAt_25 : decode cX7_wordAt 25 = .ok (.aload_n 1, 1) := by decide +kernel
theorem dX7_wordAt_26 : decode cX7_wordAt 26 = .ok (.iload 7, 2) := by decide +kernel
theorem dX7_wordAt_28 : decode cX7_wordAt 28 = .ok (.invokevirtual 23, 3) := by decide +kernel
theorem dX7_wordAt_31 : decode cX7_wordAt 31 = .ok (.aload_n 0, 1) := by decide +kernel
theorem dX7_wordAt_32 : decode cX7_wordAt 32 = .ok (.iload 7, 2) := by decide +kernel
theorem dX7_wordAt_34 : decode cX7_wordAt 34 = .ok (.iconst 0, 1) := by decide +kernel
theorem dX7_wordAt_35 : decode cX7_wordAt 35 = .ok (.invokevirtual 26, 3) := by decide +kernel
theorem dX7_wordAt_38 : decode cX7_wordAt 38 = .ok (.lstore 8, 2) := by decide +kernel
theorem dX7_wordAt_40 : decode cX7_wordAt 40 = .ok (.lload 5, 2) := by decide +kernel
theorem dX7_wordAt_42 : decode cX7_wordAt 42 = .ok (.lload 8, 2) := by decide +kernel
theorem dX7_wordAt_44 : decode cX7_wordAt 44 = .ok (.lcmp, 1) := by decide +kernel
theorem dX7_wordAt_45 : decode cX7_wordAt 45 = .ok (.ifCond .ge 13, 3) := by decide +kernel
theorem dX7_wordAt_48 : decode cX7_wordAt 48 = .ok (.aload_n 0, 1) := by decide +kernel
theorem dX7_wordAt_49 : decode cX7_wordAt 49 = .ok (.aload_n 1, 1) := by decide +kernel
theorem dX7_wordAt_50 : decode cX7_wordAt 50 = .ok (.iload 7, 2) := by decide +kernel
theorem dX7_wordAt_52 : decode cX7_wordAt 52 = .ok (.lload 5, 2) := by decide +kernel
theorem dX7_wordAt_54 : decode cX7_wordAt 54 = .ok (.invokevirtual 30, 3) := by decide +kernel
theorem dX7_wordAt_57 : decode cX7_wordAt 57 = .ok (.lreturn, 1) := by decide +kernel
theorem dX7_wordAt_58 : decode cX7_wordAt 58 = .ok (.lload 5, 2) := by decide +kernel
theorem dX7_wordAt_60 : decode cX7_wordAt 60 = .ok (.lload 8, 2) := by decide +kernel
theorem dX7_wordAt_62 : decode cX7_wordAt 62 = .ok (.lsub, 1) := by decide +kernel
theorem dX7_wordAt_63 : decode cX7_wordAt 63 = .ok (.lstore 5, 2) := by decide +kernel
theorem dX7_wordAt_65 : decode cX7_wordAt 65 = .ok (.iinc 7 1, 3) := by decide +kernel
theorem dX7_wordAt_68 : decode cX7_wordAt 68 = .ok (.goto (-56), 3) := by decide +kernel
theorem dX7_wordAt_71 : decode cX7_wordAt 71 = .ok (.ldc2_w 34, 3) := by decide +kernel
theorem dX7_wordAt_74 : decode cX7_wordAt 74 = .ok (.lreturn, 1) := by decide +kernel
def f_Tally_wordAt_b31 (x5 : Int64) (x7 : Int32) (kh : Int64 → Int32 → MI → MJ → Prop) (k48 : Int64 → Int32 → MI → MJ → Prop) (I : MI) (J : MJ) : Prop :=
  f_Tally_waysFrom x7 (0 : Int32) I J (fun r35 I35 J35 => (if r35 ≤ x5 then ∀ t63 : Int64, t63 = x5 - r35 → ∀ t65 : Int32, t65 = x7 + 1 → kh t63 t65 I35 J35 else k48 x5 x7 I35 J35))
def f_Tally_wordAt_L12 (x1 : Nat) (k48 : Int64 → Int32 → MI → MJ → Prop) (k71 : MI → MJ → Prop) : Nat → Int64 → Int32 → MI → MJ → Prop
  | 0, _, _, _, _ => False
  | nf12 + 1, x5, x7, I, J =>
  (if 30 < x7 then k71 I J else (if x7 ≤ 0 then f_Tally_wordAt_b31 x5 x7 (f_Tally_wordAt_L12 x1 k48 k71 nf12) k48 I J else f_Tally_fillNext x1 x7 I J (fun I28 J28 => f_Tally_wordAt_b31 x5 x7 (f_Tally_wordAt_L12 x1 k48 k71 nf12) k48 I28 J28)))
def f_Tally_wordAt (x1 : Nat) (x2 : Int32) (x3 : Int64) (I : MI) (J : MJ) (Q : Int64 → MI → MJ → Prop) : Prop :=
  f_Tally_fillFirst x1 x2 I J (fun I6 J6 => ∃ n, f_Tally_wordAt_L12 x1 (fun (z48_x5 : Int64) (z48_x7 : Int32) (I : MI) (J : MJ) => f_Tally_spelled x1 z48_x7 z48_x5 I J (fun r54 I54 J54 => Q r54 I54 J54)) (fun (I : MI) (J : MJ) => Q (-1) I J) n x3 0 I6 J6)
set_option maxRecDepth 100000 in
set_option maxHeartbeats 4000000 in
theorem w_Tally_wordAt_b31 {Γ : Ctx} {Q : Int64 → MI → MJ → Prop} {x1 : Nat} {x5 : Int64} {x7 : Int32} {kh : Int64 → Int32 → MI → MJ → Prop} {k48 : Int64 → Int32 → MI → MJ → Prop} (X : Cx Γ cX7_wordAt 10 RX7 3) (Y : Rt Γ (Pl Q) (Option.some Jvm.ClassFile.FieldType.long)) (hx1 : okM x1) (hkh : ∀ (x5 : Int64) (x7 : Int32) (I : MI) (J : MJ), kh x5 x7 I J → Wp Γ 10 12 [(0, .ref (ad Γ 23)), (1, .ref (ad Γ x1)), (5, .long x5), (7, .int x7)] [] I J) (hk48 : ∀ (x5 : Int64) (x7 : Int32) (I : MI) (J : MJ), k48 x5 x7 I J → Wp Γ 10 48 [(0, .ref (ad Γ 23)), (1, .ref (ad Γ x1)), (5, .long x5), (7, .int x7)] [] I J) {I : MI} {J : MJ} (h : f_Tally_wordAt_b31 x5 x7 kh k48 I J) : Wp Γ 10 31 [(0, .ref (ad Γ 23)), (1, .ref (ad Γ x1)), (5, .long x5), (7, .int x7)] [] I J := by
  unfold f_Tally_wordAt_b31 at h
  refine wp_aload_n X dX7_wordAt_31 0 rfl ?_
  refine wp_iload X dX7_wordAt_32 3 rfl ?_
  refine wp_iconst X dX7_wordAt_34 ic_0 ?_
  refine cv_Tally_waysFrom X dX7_wordAt_35 ml_X7_26  h (Nat.le_of_ble_eq_true rfl) (by decide) (fun r35 I35 J35 h => ?_)
  refine wp_lstore (L' := [(8, .long r35), (0, .ref (ad Γ 23)), (1, .ref (ad Γ x1)), (5, .long x5), (7, .int x7)]) X dX7_wordAt_38 (by decide) rfl ?_
  refine wp_lload X dX7_wordAt_40 3 rfl ?_
  refine wp_lload X dX7_wordAt_42 0 rfl ?_
  refine wp_lcmp_ge (tgt := 58) X dX7_wordAt_44 dX7_wordAt_45 (by decide) (fun hc => ?_) (fun hc => ?_)
  · have h := ite_t h hc
    refine wp_lload X dX7_wordAt_58 3 rfl ?_
    refine wp_lload X dX7_wordAt_60 0 rfl ?_
    refine wp_lsub X dX7_wordAt_62 ?_
    refine wp_topl (fun t63 et63 => ?_)
    have h := h t63 et63
    refine wp_lstore (L' := [(5, .long t63), (8, .long r35), (0, .ref (ad Γ 23)), (1, .ref (ad Γ x1)), (7, .int x7)]) X dX7_wordAt_63 (by decide) rfl ?_
    obtain ⟨t65, et65⟩ : ∃ y : Int32, y = x7 + 1 := ⟨_, rfl⟩
    have h := h t65 et65
    refine wp_iinc (L' := [(7, .int t65), (5, .long t63), (8, .long r35), (0, .ref (ad Γ 23)), (1, .ref (ad Γ x1))]) X dX7_wordAt_65 4 rfl (ii_1 et65) (by decide) rfl ?_
    refine wp_goto (tgt := 12) X dX7_wordAt_68 (by decide) ?_
    refine wp_sub X [3, 4, 1, 0] rfl ?_
    exact hkh _ _ _ _ h
  · have h := ite_f h hc
    refine wp_sub X [1, 2, 3, 4] rfl ?_
    exact hk48 _ _ _ _ h

set_option maxRecDepth 100000 in
set_option maxHeartbeats 4000000 in
theorem w_Tally_wordAt_L12 {Γ : Ctx} {Q : Int64 → MI → MJ → Prop} {x1 : Nat} {k48 : Int64 → Int32 → MI → MJ → Prop} {k71 : MI → MJ → Prop} (X : Cx Γ cX7_wordAt 10 RX7 3) (Y : Rt Γ (Pl Q) (Option.some Jvm.ClassFile.FieldType.long)) (hx1 : okM x1) (hk48 : ∀ (x5 : Int64) (x7 : Int32) (I : MI) (J : MJ), k48 x5 x7 I J → Wp Γ 10 48 [(0, .ref (ad Γ 23)), (1, .ref (ad Γ x1)), (5, .long x5), (7, .int x7)] [] I J) (hk71 : ∀ (I : MI) (J : MJ), k71 I J → Wp Γ 10 71 [] [] I J) : ∀ (n : Nat) (x5 : Int64) (x7 : Int32) (I : MI) (J : MJ), f_Tally_wordAt_L12 x1 k48 k71 n x5 x7 I J → Wp Γ 10 12 [(0, .ref (ad Γ 23)), (1, .ref (ad Γ x1)), (5, .long x5), (7, .int x7)] [] I J := by
  intro n
  induction n with
  | zero => intro x5 x7 I J h; exact absurd h (by simp [f_Tally_wordAt_L12])
  | succ n ih =>
  intro x5 x7 I J h
  unfold f_Tally_wordAt_L12 at h
  refine wp_iload X dX7_wordAt_12 3 rfl ?_
  refine wp_bipush X dX7_wordAt_14 bi_30 ?_
  refine wp_icmp_gt (tgt := 71) X dX7_wordAt_16 (by decide) (fun hc => ?_) (fun hc => ?_)
  · have h := ite_t h hc
    refine wp_sub X [] rfl ?_
    exact hk71 _ _ h
  · have h := ite_f h hc
    refine wp_iload X dX7_wordAt_19 3 rfl ?_
    refine wp_if_le (tgt := 31) X dX7_wordAt_21 (by decide) (fun hc => ?_) (fun hc => ?_)
    · have h := ite_t h hc
      exact w_Tally_wordAt_b31 X Y hx1 ih hk48 h
    · have h := ite_f h hc
      refine wp_aload_n X dX7_wordAt_24 0 rfl ?_
      refine wp_aload_n X dX7_wordAt_25 1 rfl ?_
      refine wp_iload X dX7_wordAt_26 3 rfl ?_
      refine cv_Tally_fillNext X dX7_wordAt_28 ml_X7_23 hx1 h (Nat.le_of_ble_eq_true rfl) (by decide) (fun I28 J28 h => ?_)
      exact w_Tally_wordAt_b31 X Y hx1 ih hk48 h

set_option maxRecDepth 100000 in
set_option maxHeartbeats 4000000 in
theorem w_Tally_wordAt_b0 {Γ : Ctx} {Q : Int64 → MI → MJ → Prop} {x1 : Nat} {x2 : Int32} {x3 : Int64}  (X : Cx Γ cX7_wordAt 10 RX7 3) (Y : Rt Γ (Pl Q) (Option.some Jvm.ClassFile.FieldType.long)) (hx1 : okM x1)  {I : MI} {J : MJ} (h : f_Tally_wordAt x1 x2 x3 I J Q) : Wp Γ 10 0 [(0, .ref (ad Γ 23)), (1, .ref (ad Γ x1)), (2, .int x2), (3, .long x3)] [] I J := by
  unfold f_Tally_wordAt at h
  refine wp_lload_n X dX7_wordAt_0 3 rfl ?_
  refine wp_lstore (L' := [(5, .long x3), (0, .ref (ad Γ 23)), (1, .ref (ad Γ x1)), (2, .int x2), (3, .long x3)]) X dX7_wordAt_1 (by decide) rfl ?_
  refine wp_aload_n X dX7_wordAt_3 1 rfl ?_
  refine wp_aload_n X dX7_wordAt_4 2 rfl ?_
  refine wp_iload_n X dX7_wordAt_5 3 rfl ?_
  refine cv_Tally_fillFirst X dX7_wordAt_6 ml_X7_19 hx1 h (Nat.le_of_ble_eq_true rfl) (by decide) (fun I6 J6 h => ?_)
  refine wp_iconst X dX7_wordAt_9 ic_0 ?_
  refine wp_istore (L' := [(7, .int 0), (5, .long x3), (0, .ref (ad Γ 23)), (1, .ref (ad Γ x1)), (2, .int x2), (3, .long x3)]) X dX7_wordAt_10 (by decide) rfl ?_
  obtain ⟨n, h⟩ := h
  refine wp_sub X [2, 3, 1, 0] rfl ?_
  refine w_Tally_wordAt_L12 X Y hx1 ?_ ?_ n _ _ _ _ h
  · intro z48_x5 z48_x7 I J h
    refine wp_aload_n X dX7_wordAt_48 0 rfl ?_
    refine wp_aload_n X dX7_wordAt_49 1 rfl ?_
    refine wp_iload X dX7_wordAt_50 3 rfl ?_
    refine wp_lload X dX7_wordAt_52 2 rfl ?_
    refine cv_Tally_spelled X dX7_wordAt_54 ml_X7_30 hx1 h (Nat.le_of_ble_eq_true rfl) (by decide) (fun r54 I54 J54 h => ?_)
    exact wp_lret X Y dX7_wordAt_57 ⟨_, rfl, h⟩
  · intro I J h
    refine wp_ldc2 X kl_X7_34 dX7_wordAt_71 ?_
    exact wp_lret X Y dX7_wordAt_74 ⟨_, rfl, h⟩

theorem c_Tally_wordAt {l : Launch} {g : GE} (hg : Inj g) {I : MI} {J : MJ} {Q : Int64 → MI → MJ → Prop} {x1 : Nat} {x2 : Int32} {x3 : Int64} (hx1 : okM x1) (h : f_Tally_wordAt x1 x2 x3 I J Q) : Cm l g yX7_wordAt cX7_wordAt 10 (Option.some Jvm.ClassFile.FieldType.long) 3 [.ref (g.1 23), .ref (g.1 x1), .int x2, .long x3] I J (Pl Q) := by
  refine Cm.of (As := fun ad => [.ref (ad 23), .ref (ad x1), .int x2, .long x3]) hg pn_X7 (Nat.le_of_ble_eq_true rfl) ?_
  exact (fun Γ _ _ X Y => w_Tally_wordAt_b0 X Y hx1 h)
theorem cv_Tally_wordAt {Γ : Ctx} {cc : ByteArray} {nL d pc index : Nat} {own : String} {L : List (Nat × Value)} {rest : List Value} {I : MI} {J : MJ} {Q : Int64 → MI → MJ → Prop} {x1 : Nat} {x2 : Int32} {x3 : Int64} (X : Cx Γ cc nL own d) (hd : decode cc pc = .ok (.invokevirtual index, 3)) (hlink : Cond.methodLink own index yX7_wordAt ∈ TT) (hx1 : okM x1) (h : f_Tally_wordAt x1 x2 x3 I J Q) (hrest : (rest.map fun v => v.category).sum ≤ 8) (hdd : 3 + 1 ≤ d) (kk : ∀ (r : Int64) (I' : MI) (J' : MJ), Q r I' J' → Wp Γ nL (pc + 3) L (.long r :: rest) I' J') : Wp Γ nL pc L (.long x3 :: .int x2 :: .ref (ad Γ x1) :: .ref (ad Γ 23) :: rest) I J :=
  wp_callV (As := [.ref (ad Γ x1), .int x2, .long x3]) (rest := rest) (T := TX7) (N := 2) X hd hlink mv_X7_wordAt sh_23 (by decide) rfl (c_Tally_wordAt X.inj hx1 h) rfl rfl hrest hdd (fun v I' J' hv => by obtain ⟨r, rfl, hq⟩ := hv; exact kk r I' J' hq)
theorem dX10_word_0 : decode cX10_word 0 = .ok (.aload_n 0, 1) := by decide +kernel
theorem dX10_word_1 : decode cX10_word 1 = .ok (.iload_n 1, 1) := by decide +kernel
theorem dX10_word_2 : decode cX10_word 2 = .ok (.invokevirtual 162, 3) := by decide +kernel
theorem dX10_word_5 : decode cX10_word 5 = .ok (.astore 5, 2) := by decide +kernel
theorem dX10_word_7 : decode cX10_word 7 = .ok (.aload 5, 2) := by decide +kernel
theorem dX10_word_9 : decode cX10_word 9 = .ok (.ifnull 16, 3) := by decide +kernel
theorem dX10_word_12 : decode cX10_word 12 = .ok (.iload_n 2, 1) := by decide +kernel
theorem dX10_word_13 : decode cX10_word 13 = .ok (.invokestatic 180, 3) := by decide +kernel
theorem dX10_word_16 : decode cX10_word 16 = .ok (.ifCond .eq 9, 3) := by decide +kernel
theorem dX10_word_19 : decode cX10_word 19 = .ok (.lload_n 3, 1) := by decide +kernel
theorem dX10_word_20 : decode cX10_word 20 = .ok (.lconst 0, 1) := by decide +kernel
theorem dX10_word_21 : decode cX10_word 21 = .ok (.lcmp, 1) := by decide +kernel
theorem dX10_word_22 : decode cX10_word 22 = .ok (.ifCond .ge 7, 3) := by decide +kernel
theorem dX10_word_25 : decode cX10_word 25 = .ok (.ldc2_w 183, 3) := by decide +kernel
theorem dX10_word_28 : decode cX10_word 28 = .ok (.lreturn, 1) := by decide +kernel
theorem dX10_word_29 : decode cX10_word 29 = .ok (.aload_n 0, 1) := by decide +kernel
theorem dX10_word_30 : decode cX10_word 30 = .ok (.getfield 32, 3) := by decide +kernel
theorem dX10_word_33 : decode cX10_word 33 = .ok (.aload 5, 2) := by decide +kernel
theorem dX10_word_35 : decode cX10_word 35 = .ok (.iload_n 2, 1) := by decide +kernel
theorem dX10_word_36 : decode cX10_word 36 = .ok (.lload_n 3, 1) := by decide +kernel
theorem dX10_word_37 : decode cX10_word 37 = .ok (.invokevirtual 189, 3) := by decide +kernel
theorem dX10_word_40 : decode cX10_word 40 = .ok (.lreturn, 1) := by decide +kernel
def f_School_word (x1 : Int32) (x2 : Int32) (x3 : Int64) (I : MI) (J : MJ) (Q : Int64 → MI → MJ → Prop) : Prop :=
  f_School_machineAt x1 I J (fun r2 I2 J2 => (match r2 with | none => Q (-1) I2 J2 | some a9 => okM a9 ∧ f_School_isAnswer x2 I2 J2 (fun r13 I13 J13 => (if r13 = 0 then Q (-1) I13 J13 else (if 0 ≤ x3 then f_Tally_wordAt a9 x2 x3 I13 J13 (fun r37 I37 J37 => Q r37 I37 J37) else Q (-1) I13 J13)))))
set_option maxRecDepth 100000 in
set_option maxHeartbeats 4000000 in
theorem w_School_word_b0 {Γ : Ctx} {Q : Int64 → MI → MJ → Prop} {x1 : Int32} {x2 : Int32} {x3 : Int64}  (X : Cx Γ cX10_word 6 RX10 4) (Y : Rt Γ (Pl Q) (Option.some Jvm.ClassFile.FieldType.long))   {I : MI} {J : MJ} (h : f_School_word x1 x2 x3 I J Q) : Wp Γ 6 0 [(0, .ref (ad Γ 0)), (1, .int x1), (2, .int x2), (3, .long x3)] [] I J := by
  unfold f_School_word at h
  refine wp_aload_n X dX10_word_0 0 rfl ?_
  refine wp_iload_n X dX10_word_1 1 rfl ?_
  refine cv_School_machineAt X dX10_word_2 ml_X10_162  h (Nat.le_of_ble_eq_true rfl) (by decide) (fun r2 I2 J2 h => ?_)
  refine wp_astoreQ (L' := [(5, rfN (ad Γ) r2), (0, .ref (ad Γ 0)), (1, .int x1), (2, .int x2), (3, .long x3)]) X dX10_word_5 (by decide) rfl ?_
  refine wp_aloadQ X dX10_word_7 0 rfl ?_
  refine wp_ifnull (q := r2) (tgt := 25) X dX10_word_9 (by decide) ?_ ?_
  · intro hq; subst hq
    refine wp_ldc2 X kl_X10_183 dX10_word_25 ?_
    exact wp_lret X Y dX10_word_28 ⟨_, rfl, h⟩
  · intro a9 hq; subst hq; obtain ⟨oka9, h⟩ := h
    refine wp_iload_n X dX10_word_12 3 rfl ?_
    refine cs_School_isAnswer X dX10_word_13 ml_X10_180  h (Nat.le_of_ble_eq_true rfl) (by decide) (fun r13 I13 J13 h => ?_)
    refine wp_if_eq (tgt := 25) X dX10_word_16 (by decide) (fun hc => ?_) (fun hc => ?_)
    · have h := ite_t h hc
      refine wp_ldc2 X kl_X10_183 dX10_word_25 ?_
      exact wp_lret X Y dX10_word_28 ⟨_, rfl, h⟩
    · have h := ite_f h hc
      refine wp_lload_n X dX10_word_19 4 rfl ?_
      refine wp_lconst X dX10_word_20 lc_0 ?_
      refine wp_lcmp_ge (tgt := 29) X dX10_word_21 dX10_word_22 (by decide) (fun hc => ?_) (fun hc => ?_)
      · have h := ite_t h hc
        refine wp_aload_n X dX10_word_29 1 rfl ?_
        refine gf_X10_32 (o' := 23) X sh_0 rfl dX10_word_30 ?_
        refine wp_aload X dX10_word_33 0 rfl ?_
        refine wp_iload_n X dX10_word_35 3 rfl ?_
        refine wp_lload_n X dX10_word_36 4 rfl ?_
        refine cv_Tally_wordAt X dX10_word_37 ml_X10_189 oka9 h (Nat.le_of_ble_eq_true rfl) (by decide) (fun r37 I37 J37 h => ?_)
        exact wp_lret X Y dX10_word_40 ⟨_, rfl, h⟩
      · have h := ite_f h hc
        refine wp_ldc2 X kl_X10_183 dX10_word_25 ?_
        exact wp_lret X Y dX10_word_28 ⟨_, rfl, h⟩

theorem c_School_word {l : Launch} {g : GE} (hg : Inj g) {I : MI} {J : MJ} {Q : Int64 → MI → MJ → Prop} {x1 : Int32} {x2 : Int32} {x3 : Int64}  (h : f_School_word x1 x2 x3 I J Q) : Cm l g yX10_word cX10_word 6 (Option.some Jvm.ClassFile.FieldType.long) 4 [.ref (g.1 0), .int x1, .int x2, .long x3] I J (Pl Q) := by
  refine Cm.of (As := fun ad => [.ref (ad 0), .int x1, .int x2, .long x3]) hg pn_X10 (Nat.le_of_ble_eq_true rfl) ?_
  exact (fun Γ _ _ X Y => w_School_word_b0 X Y  h)
theorem cv_School_word {Γ : Ctx} {cc : ByteArray} {nL d pc index : Nat} {own : String} {L : List (Nat × Value)} {rest : List Value} {I : MI} {J : MJ} {Q : Int64 → MI → MJ → Prop} {x1 : Int32} {x2 : Int32} {x3 : Int64} (X : Cx Γ cc nL own d) (hd : decode cc pc = .ok (.invokevirtual index, 3)) (hlink : Cond.methodLink own index yX10_word ∈ TT)  (h : f_School_word x1 x2 x3 I J Q) (hrest : (rest.map fun v => v.category).sum ≤ 8) (hdd : 4 + 1 ≤ d) (kk : ∀ (r : Int64) (I' : MI) (J' : MJ), Q r I' J' → Wp Γ nL (pc + 3) L (.long r :: rest) I' J') : Wp Γ nL pc L (.long x3 :: .int x2 :: .int x1 :: .ref (ad Γ 0) :: rest) I J :=
  wp_callV (As := [.int x1, .int x2, .long x3]) (rest := rest) (T := TX10) (N := 9) X hd hlink mv_X10_word sh_0 (by decide) rfl (c_School_word X.inj  h) rfl rfl hrest hdd (fun v I' J' hv => by obtain ⟨r, rfl, hq⟩ := hv; exact kk r I' J' hq)
theorem dX7_wordsBefore_0 : decode cX7_wordsBefore 0 = .ok (.aload_n 1, 1) := by decide +kernel
theorem dX7_wordsBefore_1 : decode cX7_wordsBefore 1 = .ok (.lload_n 2, 1) := by decide +kernel
theorem dX7_wordsBefore_2 : decode cX7_wordsBefore 2 = .ok (.invokevirtual 36, 3) := by decide +kernel
theorem dX7_wordsBefore_5 : decode cX7_wordsBefore 5 = .ok (.istore 4, 2) := by decide +kernel
theorem dX7_wordsBefore_7 : decode cX7_wordsBefore 7 = .ok (.iload 4, 2) := by decide +kernel
theorem dX7_wordsBefore_9 : decode cX7_wordsBefore 9 = .ok (.bipush 8, 2) := by decide +kernel
theorem dX7_wordsBefore_11 : decode cX7_wordsBefore 11 = .ok (.if_icmp .ne 7, 3) := by decide +kernel
theorem dX7_wordsBefore_14 : decode cX7_wordsBefore 14 = .ok (.ldc2_w 34, 3) := by decide +kernel
theorem dX7_wordsBefore_17 : decode cX7_wordsBefore 17 = .ok (.lreturn, 1) := by decide +kernel
theorem dX7_wordsBefore_18 : decode cX7_wordsBefore 18 = .ok (.lload_n 2, 1) := by decide +kernel
theorem dX7_wordsBefore_19 : decode cX7_wordsBefore 19 = .ok (.invokestatic 42, 3) := by decide +kernel
theorem dX7_wordsBefore_22 : decode cX7_wordsBefore 22 = .ok (.istore 5, 2) := by decide +kernel
theorem dX7_wordsBefore_24 : decode cX7_wordsBefore 24 = .ok (.lconst 0, 1) := by decide +kernel
theorem dX7_wordsBefore_25 : decode cX7_wordsBefore 25 = .ok (.lstore 6, 2) := by decide +kernel
theorem dX7_wordsBefore_27 : decode cX7_wordsBefore 27 = .ok (.aload_n 0, 1) := by decide +kernel
theorem dX7_wordsBefore_28 : decode cX7_wordsBefore 28 = .ok (.aload_n 1, 1) := by decide +kernel
theorem dX7_wordsBefore_29 : decode cX7_wordsBefore 29 = .ok (.iload 4, 2) := by decide +kernel
theorem dX7_wordsBefore_31 : decode cX7_wordsBefore 31 = .ok (.invokevirtual 19, 3) := by decide +kernel
theorem dX7_wordsBefore_34 : decode cX7_wordsBefore 34 = .ok (.iconst 1, 1) := by decide +kernel
theorem dX7_wordsBefore_35 : decode cX7_wordsBefore 35 = .ok (.istore 8, 2) := by decide +kernel
theorem dX7_wordsBefore_37 : decode cX7_wordsBefore 37 = .ok (.iload 8, 2) := by decide +kernel
theorem dX7_wordsBefore_39 : decode cX7_wordsBefore 39 = .ok (.iload 5, 2) := by decide +kernel
theorem dX7_wordsBefore_41 : decode cX7_wordsBefore 41 = .ok (.if_icmp .gt 30, 3) := by decide +kernel
theorem dX7_wordsBefore_44 : decode cX7_wordsBefore 44 = .ok (.lload 6, 2) := by decide +kernel
theorem dX7_wordsBefore_46 : decode cX7_wordsBefore 46 = .ok (.aload_n 0, 1) := by decide +kernel
theorem dX7_wordsBefore_47 : decode cX7_wordsBefore 47 = .ok (.iload 8, 2) := by decide +kernel
theorem dX7_wordsBefore_49 : decode cX7_wordsBefore 49 = .ok (.iconst 1, 1) := by decide +kernel
theorem dX7_wordsBefore_50 : decode cX7_wordsBefore 50 = .ok (.isub, 1) := by decide +kernel
theorem dX7_wordsBefore_51 : decode cX7_wordsBefore 51 = .ok (.iconst 0, 1) := by decide +kernel
theorem dX7_wordsBefore_52 : decode cX7_wordsBefore 52 = .ok (.invokevirtual 26, 3) := by decide +kernel
theorem dX7_wordsBefore_55 : decode cX7_wordsBefore 55 = .ok (.ladd, 1) := by decide +kernel
theorem dX7_wordsBefore_56 : decode cX7_wordsBefore 56 = .ok (.lstore 6, 2) := by decide +kernel
theorem dX7_wordsBefore_58 : decode cX7_wordsBefore 58 = .ok (.aload_n 0, 1) := by decide +kernel
theorem dX7_wordsBefore_59 : decode cX7_wordsBefore 59 = .ok (.aload_n 1, 1) := by decide +kernel
theorem dX7_wordsBefore_60 : decode cX7_wordsBefore 60 = .ok (.iload 8, 2) := by decide +kernel
theorem dX7_wordsBefore_62 : decode cX7_wordsBefore 62 = .ok (.invokevirtual 23, 3) := by decide +kernel
theorem dX7_wordsBefore_65 : decode cX7_wordsBefore 65 = .ok (.iinc 8 1, 3) := by decide +kernel
theorem dX7_wordsBefore_68 : decode cX7_wordsBefore 68 = .ok (.goto (-31), 3) := by decide +kernel
theorem dX7_wordsBefore_71 : decode cX7_wordsBefore 71 = .ok (.iconst 0, 1) := by decide +kernel
theorem dX7_wordsBefore_72 : decode cX7_wordsBefore 72 = .ok (.istore 8, 2) := by decide +kernel
theorem dX7_wordsBefore_74 : decode cX7_wordsBefore 74 = .ok (.iload 5, 2) := by decide +kernel
theorem dX7_wordsBefore_76 : decode cX7_wordsBefore 76 = .ok (.iconst 1, 1) := by decide +kernel
theorem dX7_wordsBefore_77 : decode cX7_wordsBefore 77 = .ok (.isub, 1) := by decide +kernel
theorem dX7_wordsBefore_78 : decode cX7_wordsBefore 78 = .ok (.istore 9, 2) := by decide +kernel
theorem dX7_wordsBefore_80 : decode cX7_wordsBefore 80 = .ok (.iload 9, 2) := by decide +kernel
theorem dX7_wordsBefore_82 : decode cX7_wordsBefore 82 = .ok (.ifCond .lt 62, 3) := by decide +kernel
theorem dX7_wordsBefore_85 : decode cX7_wordsBefore 85 = .ok (.lload_n 2, 1) := by decide +kernel
theorem dX7_wordsBefore_86 : decode cX7_wordsBefore 86 = .ok (.iload 9, 2) := by decide +kernel
theorem dX7_wordsBefore_88 : decode cX7_wordsBefore 88 = .ok (.invokestatic 47, 3) := by decide +kernel
theorem dX7_wordsBefore_91 : decode cX7_wordsBefore 91 = .ok (.istore 10, 2) := by decide +kernel
theorem dX7_wordsBefore_93 : decode cX7_wordsBefore 93 = .ok (.iconst 0, 1) := by decide +kernel
theorem dX7_wordsBefore_94 : decode cX7_wordsBefore 94 = .ok (.istore 11, 2) := by decide +kernel
theorem dX7_wordsBefore_96 : decode cX7_wordsBefore 96 = .ok (.iload 11, 2) := by decide +kernel
theorem dX7_wordsBefore_98 : decode cX7_wordsBefore 98 = .ok (.iload 10, 2) := by decide +kernel
theorem dX7_wordsBefore_100 : decode cX7_wordsBefore 100 = .ok (.if_icmp .ge 28, 3) := by decide +kernel
theorem dX7_wordsBefore_103 : decode cX7_wordsBefore 103 = .ok (.lload 6, 2) := by decide +kernel
theorem dX7_wordsBefore_105 : decode cX7_wordsBefore 105 = .ok (.aload_n 0, 1) := by decide +kernel
theorem dX7_wordsBefore_106 : decode cX7_wordsBefore 106 = .ok (.iload 9, 2) := by decide +kernel
theorem dX7_wordsBefore_108 : decode cX7_wordsBefore 108 = .ok (.aload_n 1, 1) := by decide +kernel
theorem dX7_wordsBefore_109 : decode cX7_wordsBefore 109 = .ok (.iload 8, 2) := by decide +kernel
theorem dX7_wordsBefore_111 : decode cX7_wordsBefore 111 = .ok (.iload 11, 2) := by decide +kernel
theorem dX7_wordsBefore_113 : decode cX7_wordsBefore 113 = .ok (.invokevirtual 51, 3) := by decide +kernel
theorem dX7_wordsBefore_116 : decode cX7_wordsBefore 116 = .ok (.invokevirtual 26, 3) := by decide +kernel
theorem dX7_wordsBefore_119 : decode cX7_wordsBefore 119 = .ok (.ladd, 1) := by decide +kernel
theorem dX7_wordsBefore_120 : decode cX7_wordsBefore 120 = .ok (.lstore 6, 2) := by decide +kernel
theorem dX7_wordsBefore_122 : decode cX7_wordsBefore 122 = .ok (.iinc 11 1, 3) := by decide +kernel
theorem dX7_wordsBefore_125 : decode cX7_wordsBefore 125 = .ok (.goto (-29), 3) := by decide +kernel
theorem dX7_wordsBefore_128 : decode cX7_wordsBefore 128 = .ok (.aload_n 1, 1) := by decide +kernel
theorem dX7_wordsBefore_129 : decode cX7_wordsBefore 129 = .ok (.iload 8, 2) := by decide +kernel
theorem dX7_wordsBefore_131 : decode cX7_wordsBefore 131 = .ok (.iload 10, 2) := by decide +kernel
theorem dX7_wordsBefore_133 : decode cX7_wordsBefore 133 = .ok (.invokevirtual 51, 3) := by decide +kernel
theorem dX7_wordsBefore_136 : decode cX7_wordsBefore 136 = .ok (.istore 8, 2) := by decide +kernel
theorem dX7_wordsBefore_138 : decode cX7_wordsBefore 138 = .ok (.iinc 9 (-1), 3) := by decide +kernel
theorem dX7_wordsBefore_141 : decode cX7_wordsBefore 141 = .ok (.goto (-61), 3) := by decide +kernel
theorem dX7_wordsBefore_144 : decode cX7_wordsBefore 144 = .ok (.lload 6, 2) := by decide +kernel
theorem dX7_wordsBefore_146 : decode cX7_wordsBefore 146 = .ok (.lreturn, 1) := by decide +kernel
def f_Tally_wordsBefore_L96 (x1 : Nat) (x8 : Int32) (x9 : Int32) (x10 : Int32) (k128 : Int64 → MI → MJ → Prop) : Nat → Int64 → Int32 → MI → MJ → Prop
  | 0, _, _, _, _ => False
  | nf96 + 1, x6, x11, I, J =>
  (if x10 ≤ x11 then k128 x6 I J else f_Machine_nextKey x1 x8 x11 I J (fun r113 I113 J113 => f_Tally_waysFrom x9 r113 I113 J113 (fun r116 I116 J116 => ∀ t120 : Int64, t120 = x6 + r116 → ∀ t122 : Int32, t122 = x11 + 1 → f_Tally_wordsBefore_L96 x1 x8 x9 x10 k128 nf96 t120 t122 I116 J116)))
def f_Tally_wordsBefore_L80 (x1 : Nat) (x2 : Int64) (k144 : Int64 → MI → MJ → Prop) : Nat → Int64 → Int32 → Int32 → MI → MJ → Prop
  | 0, _, _, _, _, _ => False
  | nf80 + 1, x6, x8, x9, I, J =>
  (if x9 < 0 then k144 x6 I J else f_Words_signAt x2 x9 I J (fun r88 I88 J88 => ∃ n, f_Tally_wordsBefore_L96 x1 x8 x9 r88 (fun (z128_x6 : Int64) (I : MI) (J : MJ) => f_Machine_nextKey x1 x8 r88 I J (fun r133 I133 J133 => ∀ t138 : Int32, t138 = x9 + (-1) → f_Tally_wordsBefore_L80 x1 x2 k144 nf80 z128_x6 r133 t138 I133 J133)) n x6 0 I88 J88))
def f_Tally_wordsBefore_L37 (x1 : Nat) (x5 : Int32) (k71 : Int64 → MI → MJ → Prop) : Nat → Int64 → Int32 → MI → MJ → Prop
  | 0, _, _, _, _ => False
  | nf37 + 1, x6, x8, I, J =>
  (if x5 < x8 then k71 x6 I J else f_Tally_waysFrom (x8 - 1) (0 : Int32) I J (fun r52 I52 J52 => ∀ t56 : Int64, t56 = x6 + r52 → f_Tally_fillNext x1 x8 I52 J52 (fun I62 J62 => ∀ t65 : Int32, t65 = x8 + 1 → f_Tally_wordsBefore_L37 x1 x5 k71 nf37 t56 t65 I62 J62)))
def f_Tally_wordsBefore (x1 : Nat) (x2 : Int64) (I : MI) (J : MJ) (Q : Int64 → MI → MJ → Prop) : Prop :=
  f_Machine_answerTo x1 x2 I J (fun r2 I2 J2 => (if r2 = 8 then Q (-1) I2 J2 else f_Words_lengthOf x2 I2 J2 (fun r19 I19 J19 => f_Tally_fillFirst x1 r2 I19 J19 (fun I31 J31 => ∃ n, f_Tally_wordsBefore_L37 x1 r19 (fun (z71_x6 : Int64) (I : MI) (J : MJ) => ∀ t78 : Int32, t78 = r19 - 1 → ∃ n, f_Tally_wordsBefore_L80 x1 x2 (fun (z144_x6 : Int64) (I : MI) (J : MJ) => Q z144_x6 I J) n z71_x6 0 t78 I J) n 0 1 I31 J31))))
set_option maxRecDepth 100000 in
set_option maxHeartbeats 4000000 in
theorem w_Tally_wordsBefore_L96 {Γ : Ctx} {Q : Int64 → MI → MJ → Prop} {x1 : Nat} {x2 : Int64} {x8 : Int32} {x9 : Int32} {x10 : Int32} {k128 : Int64 → MI → MJ → Prop} (X : Cx Γ cX7_wordsBefore 12 RX7 4) (Y : Rt Γ (Pl Q) (Option.some Jvm.ClassFile.FieldType.long)) (hx1 : okM x1) (hk128 : ∀ (x6 : Int64) (I : MI) (J : MJ), k128 x6 I J → Wp Γ 12 128 [(0, .ref (ad Γ 23)), (1, .ref (ad Γ x1)), (2, .long x2), (6, .long x6), (8, .int x8), (9, .int x9), (10, .int x10)] [] I J) : ∀ (n : Nat) (x6 : Int64) (x11 : Int32) (I : MI) (J : MJ), f_Tally_wordsBefore_L96 x1 x8 x9 x10 k128 n x6 x11 I J → Wp Γ 12 96 [(0, .ref (ad Γ 23)), (1, .ref (ad Γ x1)), (2, .long x2), (6, .long x6), (8, .int x8), (9, .int x9), (10, .int x10), (11, .int x11)] [] I J := by
  intro n
  induction n with
  | zero => intro x6 x11 I J h; exact absurd h (by simp [f_Tally_wordsBefore_L96])
  | succ n ih =>
  intro x6 x11 I J h
  unfold f_Tally_wordsBefore_L96 at h
  refine wp_iload X dX7_wordsBefore_96 7 rfl ?_
  refine wp_iload X dX7_wordsBefore_98 6 rfl ?_
  refine wp_icmp_ge (tgt := 128) X dX7_wordsBefore_100 (by decide) (fun hc => ?_) (fun hc => ?_)
  · have h := ite_t h hc
    refine wp_sub X [0, 1, 2, 3, 4, 5, 6] rfl ?_
    exact hk128 _ _ _ h
  · have h := ite_f h hc
    refine wp_lload X dX7_wordsBefore_103 3 rfl ?_
    refine wp_aload_n X dX7_wordsBefore_105 0 rfl ?_
    refine wp_iload X dX7_wordsBefore_106 5 rfl ?_
    refine wp_aload_n X dX7_wordsBefore_108 1 rfl ?_
    refine wp_iload X dX7_wordsBefore_109 4 rfl ?_
    refine wp_iload X dX7_wordsBefore_111 7 rfl ?_
    refine cv_Machine_nextKey X dX7_wordsBefore_113 ml_X7_51 hx1 h (Nat.le_of_ble_eq_true rfl) (by decide) (fun r113 I113 J113 h => ?_)
    refine cv_Tally_waysFrom X dX7_wordsBefore_116 ml_X7_26  h (Nat.le_of_ble_eq_true rfl) (by decide) (fun r116 I116 J116 h => ?_)
    refine wp_ladd X dX7_wordsBefore_119 ?_
    refine wp_topl (fun t120 et120 => ?_)
    have h := h t120 et120
    refine wp_lstore (L' := [(6, .long t120), (0, .ref (ad Γ 23)), (1, .ref (ad Γ x1)), (2, .long x2), (8, .int x8), (9, .int x9), (10, .int x10), (11, .int x11)]) X dX7_wordsBefore_120 (by decide) rfl ?_
    obtain ⟨t122, et122⟩ : ∃ y : Int32, y = x11 + 1 := ⟨_, rfl⟩
    have h := h t122 et122
    refine wp_iinc (L' := [(11, .int t122), (6, .long t120), (0, .ref (ad Γ 23)), (1, .ref (ad Γ x1)), (2, .long x2), (8, .int x8), (9, .int x9), (10, .int x10)]) X dX7_wordsBefore_122 7 rfl (ii_1 et122) (by decide) rfl ?_
    refine wp_goto (tgt := 96) X dX7_wordsBefore_125 (by decide) ?_
    refine wp_sub X [2, 3, 4, 1, 5, 6, 7, 0] rfl ?_
    exact ih _ _ _ _ h

set_option maxRecDepth 100000 in
set_option maxHeartbeats 4000000 in
theorem w_Tally_wordsBefore_L80 {Γ : Ctx} {Q : Int64 → MI → MJ → Prop} {x1 : Nat} {x2 : Int64} {k144 : Int64 → MI → MJ → Prop} (X : Cx Γ cX7_wordsBefore 12 RX7 4) (Y : Rt Γ (Pl Q) (Option.some Jvm.ClassFile.FieldType.long)) (hx1 : okM x1) (hk144 : ∀ (x6 : Int64) (I : MI) (J : MJ), k144 x6 I J → Wp Γ 12 144 [(6, .long x6)] [] I J) : ∀ (n : Nat) (x6 : Int64) (x8 : Int32) (x9 : Int32) (I : MI) (J : MJ), f_Tally_wordsBefore_L80 x1 x2 k144 n x6 x8 x9 I J → Wp Γ 12 80 [(0, .ref (ad Γ 23)), (1, .ref (ad Γ x1)), (2, .long x2), (6, .long x6), (8, .int x8), (9, .int x9)] [] I J := by
  intro n
  induction n with
  | zero => intro x6 x8 x9 I J h; exact absurd h (by simp [f_Tally_wordsBefore_L80])
  | succ n ih =>
  intro x6 x8 x9 I J h
  unfold f_Tally_wordsBefore_L80 at h
  refine wp_iload X dX7_wordsBefore_80 5 rfl ?_
  refine wp_if_lt (tgt := 144) X dX7_wordsBefore_82 (by decide) (fun hc => ?_) (fun hc => ?_)
  · have h := ite_t h hc
    refine wp_sub X [3] rfl ?_
    exact hk144 _ _ _ h
  · have h := ite_f h hc
    refine wp_lload_n X dX7_wordsBefore_85 2 rfl ?_
    refine wp_iload X dX7_wordsBefore_86 5 rfl ?_
    refine cs_Words_signAt X dX7_wordsBefore_88 ml_X7_47  h (Nat.le_of_ble_eq_true rfl) (by decide) (fun r88 I88 J88 h => ?_)
    refine wp_istore (L' := [(10, .int r88), (0, .ref (ad Γ 23)), (1, .ref (ad Γ x1)), (2, .long x2), (6, .long x6), (8, .int x8), (9, .int x9)]) X dX7_wordsBefore_91 (by decide) rfl ?_
    refine wp_iconst X dX7_wordsBefore_93 ic_0 ?_
    refine wp_istore (L' := [(11, .int 0), (10, .int r88), (0, .ref (ad Γ 23)), (1, .ref (ad Γ x1)), (2, .long x2), (6, .long x6), (8, .int x8), (9, .int x9)]) X dX7_wordsBefore_94 (by decide) rfl ?_
    obtain ⟨n, h⟩ := h
    refine wp_sub X [2, 3, 4, 5, 6, 7, 1, 0] rfl ?_
    refine w_Tally_wordsBefore_L96 X Y hx1 ?_ n _ _ _ _ h
    · intro z128_x6 I J h
      refine wp_aload_n X dX7_wordsBefore_128 1 rfl ?_
      refine wp_iload X dX7_wordsBefore_129 4 rfl ?_
      refine wp_iload X dX7_wordsBefore_131 6 rfl ?_
      refine cv_Machine_nextKey X dX7_wordsBefore_133 ml_X7_51 hx1 h (Nat.le_of_ble_eq_true rfl) (by decide) (fun r133 I133 J133 h => ?_)
      refine wp_istore (L' := [(8, .int r133), (0, .ref (ad Γ 23)), (1, .ref (ad Γ x1)), (2, .long x2), (6, .long z128_x6), (9, .int x9), (10, .int r88)]) X dX7_wordsBefore_136 (by decide) rfl ?_
      obtain ⟨t138, et138⟩ : ∃ y : Int32, y = x9 + (-1) := ⟨_, rfl⟩
      have h := h t138 et138
      refine wp_iinc (L' := [(9, .int t138), (8, .int r133), (0, .ref (ad Γ 23)), (1, .ref (ad Γ x1)), (2, .long x2), (6, .long z128_x6), (10, .int r88)]) X dX7_wordsBefore_138 5 rfl (ii_m1 et138) (by decide) rfl ?_
      refine wp_goto (tgt := 80) X dX7_wordsBefore_141 (by decide) ?_
      refine wp_sub X [2, 3, 4, 5, 1, 0] rfl ?_
      exact ih _ _ _ _ _ h

set_option maxRecDepth 100000 in
set_option maxHeartbeats 4000000 in
theorem w_Tally_wordsBefore_L37 {Γ : Ctx} {Q : Int64 → MI → MJ → Prop} {x1 : Nat} {x2 : Int64} {x5 : Int32} {k71 : Int64 → MI → MJ → Prop} (X : Cx Γ cX7_wordsBefore 12 RX7 4) (Y : Rt Γ (Pl Q) (Option.some Jvm.ClassFile.FieldType.long)) (hx1 : okM x1) (hk71 : ∀ (x6 : Int64) (I : MI) (J : MJ), k71 x6 I J → Wp Γ 12 71 [(0, .ref (ad Γ 23)), (1, .ref (ad Γ x1)), (2, .long x2), (5, .int x5), (6, .long x6)] [] I J) : ∀ (n : Nat) (x6 : Int64) (x8 : Int32) (I : MI) (J : MJ), f_Tally_wordsBefore_L37 x1 x5 k71 n x6 x8 I J → Wp Γ 12 37 [(0, .ref (ad Γ 23)), (1, .ref (ad Γ x1)), (2, .long x2), (5, .int x5), (6, .long x6), (8, .int x8)] [] I J := by
  intro n
  induction n with
  | zero => intro x6 x8 I J h; exact absurd h (by simp [f_Tally_wordsBefore_L37])
  | succ n ih =>
  intro x6 x8 I J h
  unfold f_Tally_wordsBefore_L37 at h
  refine wp_iload X dX7_wordsBefore_37 5 rfl ?_
  refine wp_iload X dX7_wordsBefore_39 3 rfl ?_
  refine wp_icmp_gt (tgt := 71) X dX7_wordsBefore_41 (by decide) (fun hc => ?_) (fun hc => ?_)
  · have h := ite_t h hc
    refine wp_sub X [0, 1, 2, 3, 4] rfl ?_
    exact hk71 _ _ _ h
  · have h := ite_f h hc
    refine wp_lload X dX7_wordsBefore_44 4 rfl ?_
    refine wp_aload_n X dX7_wordsBefore_46 0 rfl ?_
    refine wp_iload X dX7_wordsBefore_47 5 rfl ?_
    refine wp_iconst X dX7_wordsBefore_49 ic_1 ?_
    refine wp_isub X dX7_wordsBefore_50 ?_
    refine wp_iconst X dX7_wordsBefore_51 ic_0 ?_
    refine cv_Tally_waysFrom X dX7_wordsBefore_52 ml_X7_26  h (Nat.le_of_ble_eq_true rfl) (by decide) (fun r52 I52 J52 h => ?_)
    refine wp_ladd X dX7_wordsBefore_55 ?_
    refine wp_topl (fun t56 et56 => ?_)
    have h := h t56 et56
    refine wp_lstore (L' := [(6, .long t56), (0, .ref (ad Γ 23)), (1, .ref (ad Γ x1)), (2, .long x2), (5, .int x5), (8, .int x8)]) X dX7_wordsBefore_56 (by decide) rfl ?_
    refine wp_aload_n X dX7_wordsBefore_58 1 rfl ?_
    refine wp_aload_n X dX7_wordsBefore_59 2 rfl ?_
    refine wp_iload X dX7_wordsBefore_60 5 rfl ?_
    refine cv_Tally_fillNext X dX7_wordsBefore_62 ml_X7_23 hx1 h (Nat.le_of_ble_eq_true rfl) (by decide) (fun I62 J62 h => ?_)
    obtain ⟨t65, et65⟩ : ∃ y : Int32, y = x8 + 1 := ⟨_, rfl⟩
    have h := h t65 et65
    refine wp_iinc (L' := [(8, .int t65), (6, .long t56), (0, .ref (ad Γ 23)), (1, .ref (ad Γ x1)), (2, .long x2), (5, .int x5)]) X dX7_wordsBefore_65 5 rfl (ii_1 et65) (by decide) rfl ?_
    refine wp_goto (tgt := 37) X dX7_wordsBefore_68 (by decide) ?_
    refine wp_sub X [2, 3, 4, 5, 1, 0] rfl ?_
    exact ih _ _ _ _ h

set_option maxRecDepth 100000 in
set_option maxHeartbeats 4000000 in
theorem w_Tally_wordsBefore_b0 {Γ : Ctx} {Q : Int64 → MI → MJ → Prop} {x1 : Nat} {x2 : Int64}  (X : Cx Γ cX7_wordsBefore 12 RX7 4) (Y : Rt Γ (Pl Q) (Option.some Jvm.ClassFile.FieldType.long)) (hx1 : okM x1)  {I : MI} {J : MJ} (h : f_Tally_wordsBefore x1 x2 I J Q) : Wp Γ 12 0 [(0, .ref (ad Γ 23)), (1, .ref (ad Γ x1)), (2, .long x2)] [] I J := by
  unfold f_Tally_wordsBefore at h
  refine wp_aload_n X dX7_wordsBefore_0 1 rfl ?_
  refine wp_lload_n X dX7_wordsBefore_1 2 rfl ?_
  refine cv_Machine_answerTo X dX7_wordsBefore_2 ml_X7_36 hx1 h (Nat.le_of_ble_eq_true rfl) (by decide) (fun r2 I2 J2 h => ?_)
  refine wp_istore (L' := [(4, .int r2), (0, .ref (ad Γ 23)), (1, .ref (ad Γ x1)), (2, .long x2)]) X dX7_wordsBefore_5 (by decide) rfl ?_
  refine wp_iload X dX7_wordsBefore_7 0 rfl ?_
  refine wp_bipush X dX7_wordsBefore_9 bi_8 ?_
  refine wp_icmp_ne (tgt := 18) X dX7_wordsBefore_11 (by decide) (fun hc => ?_) (fun hc => ?_)
  · have h := ite_f h hc
    refine wp_lload_n X dX7_wordsBefore_18 3 rfl ?_
    refine cs_Words_lengthOf X dX7_wordsBefore_19 ml_X7_42  h (Nat.le_of_ble_eq_true rfl) (by decide) (fun r19 I19 J19 h => ?_)
    refine wp_istore (L' := [(5, .int r19), (4, .int r2), (0, .ref (ad Γ 23)), (1, .ref (ad Γ x1)), (2, .long x2)]) X dX7_wordsBefore_22 (by decide) rfl ?_
    refine wp_lconst X dX7_wordsBefore_24 lc_0 ?_
    refine wp_lstore (L' := [(6, .long 0), (5, .int r19), (4, .int r2), (0, .ref (ad Γ 23)), (1, .ref (ad Γ x1)), (2, .long x2)]) X dX7_wordsBefore_25 (by decide) rfl ?_
    refine wp_aload_n X dX7_wordsBefore_27 3 rfl ?_
    refine wp_aload_n X dX7_wordsBefore_28 4 rfl ?_
    refine wp_iload X dX7_wordsBefore_29 2 rfl ?_
    refine cv_Tally_fillFirst X dX7_wordsBefore_31 ml_X7_19 hx1 h (Nat.le_of_ble_eq_true rfl) (by decide) (fun I31 J31 h => ?_)
    refine wp_iconst X dX7_wordsBefore_34 ic_1 ?_
    refine wp_istore (L' := [(8, .int 1), (6, .long 0), (5, .int r19), (4, .int r2), (0, .ref (ad Γ 23)), (1, .ref (ad Γ x1)), (2, .long x2)]) X dX7_wordsBefore_35 (by decide) rfl ?_
    obtain ⟨n, h⟩ := h
    refine wp_sub X [4, 5, 6, 2, 1, 0] rfl ?_
    refine w_Tally_wordsBefore_L37 X Y hx1 ?_ n _ _ _ _ h
    · intro z71_x6 I J h
      refine wp_iconst X dX7_wordsBefore_71 ic_0 ?_
      refine wp_istore (L' := [(8, .int 0), (0, .ref (ad Γ 23)), (1, .ref (ad Γ x1)), (2, .long x2), (5, .int r19), (6, .long z71_x6)]) X dX7_wordsBefore_72 (by decide) rfl ?_
      refine wp_iload X dX7_wordsBefore_74 4 rfl ?_
      refine wp_iconst X dX7_wordsBefore_76 ic_1 ?_
      refine wp_isub X dX7_wordsBefore_77 ?_
      refine wp_topi (fun t78 et78 => ?_)
      have h := h t78 et78
      refine wp_istore (L' := [(9, .int t78), (8, .int 0), (0, .ref (ad Γ 23)), (1, .ref (ad Γ x1)), (2, .long x2), (5, .int r19), (6, .long z71_x6)]) X dX7_wordsBefore_78 (by decide) rfl ?_
      obtain ⟨n, h⟩ := h
      refine wp_sub X [2, 3, 4, 6, 1, 0] rfl ?_
      refine w_Tally_wordsBefore_L80 X Y hx1 ?_ n _ _ _ _ _ h
      · intro z144_x6 I J h
        refine wp_lload X dX7_wordsBefore_144 0 rfl ?_
        exact wp_lret X Y dX7_wordsBefore_146 ⟨_, rfl, h⟩
  · have h := ite_t h hc
    refine wp_ldc2 X kl_X7_34 dX7_wordsBefore_14 ?_
    exact wp_lret X Y dX7_wordsBefore_17 ⟨_, rfl, h⟩

theorem c_Tally_wordsBefore {l : Launch} {g : GE} (hg : Inj g) {I : MI} {J : MJ} {Q : Int64 → MI → MJ → Prop} {x1 : Nat} {x2 : Int64} (hx1 : okM x1) (h : f_Tally_wordsBefore x1 x2 I J Q) : Cm l g yX7_wordsBefore cX7_wordsBefore 12 (Option.some Jvm.ClassFile.FieldType.long) 4 [.ref (g.1 23), .ref (g.1 x1), .long x2] I J (Pl Q) := by
  refine Cm.of (As := fun ad => [.ref (ad 23), .ref (ad x1), .long x2]) hg pn_X7 (Nat.le_of_ble_eq_true rfl) ?_
  exact (fun Γ _ _ X Y => w_Tally_wordsBefore_b0 X Y hx1 h)
theorem cv_Tally_wordsBefore {Γ : Ctx} {cc : ByteArray} {nL d pc index : Nat} {own : String} {L : List (Nat × Value)} {rest : List Value} {I : MI} {J : MJ} {Q : Int64 → MI → MJ → Prop} {x1 : Nat} {x2 : Int64} (X : Cx Γ cc nL own d) (hd : decode cc pc = .ok (.invokevirtual index, 3)) (hlink : Cond.methodLink own index yX7_wordsBefore ∈ TT) (hx1 : okM x1) (h : f_Tally_wordsBefore x1 x2 I J Q) (hrest : (rest.map fun v => v.category).sum ≤ 8) (hdd : 4 + 1 ≤ d) (kk : ∀ (r : Int64) (I' : MI) (J' : MJ), Q r I' J' → Wp Γ nL (pc + 3) L (.long r :: rest) I' J') : Wp Γ nL pc L (.long x2 :: .ref (ad Γ x1) :: .ref (ad Γ 23) :: rest) I J :=
  wp_callV (As := [.ref (ad Γ x1), .long x2]) (rest := rest) (T := TX7) (N := 2) X hd hlink mv_X7_wordsBefore sh_23 (by decide) rfl (c_Tally_wordsBefore X.inj hx1 h) rfl rfl hrest hdd (fun v I' J' hv => by obtain ⟨r, rfl, hq⟩ := hv; exact kk r I' J' hq)
theorem dX10_place_0 : decode cX10_place 0 = .ok (.aload_n 0, 1) := by decide +kernel
theorem dX10_place_1 : decode cX10_place 1 = .ok (.iload_n 1, 1) := by decide +kernel
theorem dX10_place_2 : decode cX10_place 2 = .ok (.invokevirtual 162, 3) := by decide +kernel
theorem dX10_place_5 : decode cX10_place 5 = .ok (.astore 4, 2) := by decide +kernel
theorem dX10_place_7 : decode cX10_place 7 = .ok (.aload 4, 2) := by decide +kernel
theorem dX10_place_9 : decode cX10_place 9 = .ok (.ifnull 10, 3) := by decide +kernel
theorem dX10_place_12 : decode cX10_place 12 = .ok (.lload_n 2, 1) := by decide +kernel
theorem dX10_place_13 : decode cX10_place 13 = .ok (.invokestatic 170, 3) := by decide +kernel
theorem dX10_place_16 : decode cX10_place 16 = .ok (.ifCond .ne 7, 3) := by decide +kernel
theorem dX10_place_19 : decode cX10_place 19 = .ok (.ldc2_w 183, 3) := by decide +kernel
theorem dX10_place_22 : decode cX10_place 22 = .ok (.lreturn, 1) := by decide +kernel
theorem dX10_place_23 : decode cX10_place 23 = .ok (.aload_n 0, 1) := by decide +kernel
theorem dX10_place_24 : decode cX10_place 24 = .ok (.getfield 32, 3) := by decide +kernel
theorem dX10_place_27 : decode cX10_place 27 = .ok (.aload 4, 2) := by decide +kernel
theorem dX10_place_29 : decode cX10_place 29 = .ok (.lload_n 2, 1) := by decide +kernel
theorem dX10_place_30 : decode cX10_place 30 = .ok (.invokevirtual 193, 3) := by decide +kernel
theorem dX10_place_33 : decode cX10_place 33 = .ok (.lreturn, 1) := by decide +kernel
def f_School_place (x1 : Int32) (x2 : Int64) (I : MI) (J : MJ) (Q : Int64 → MI → MJ → Prop) : Prop :=
  f_School_machineAt x1 I J (fun r2 I2 J2 => (match r2 with | none => Q (-1) I2 J2 | some a9 => okM a9 ∧ f_Words_isWord x2 I2 J2 (fun r13 I13 J13 => (if r13 = 0 then Q (-1) I13 J13 else f_Tally_wordsBefore a9 x2 I13 J13 (fun r30 I30 J30 => Q r30 I30 J30)))))
set_option maxRecDepth 100000 in
set_option maxHeartbeats 4000000 in
theorem w_School_place_b0 {Γ : Ctx} {Q : Int64 → MI → MJ → Prop} {x1 : Int32} {x2 : Int64}  (X : Cx Γ cX10_place 5 RX10 5) (Y : Rt Γ (Pl Q) (Option.some Jvm.ClassFile.FieldType.long))   {I : MI} {J : MJ} (h : f_School_place x1 x2 I J Q) : Wp Γ 5 0 [(0, .ref (ad Γ 0)), (1, .int x1), (2, .long x2)] [] I J := by
  unfold f_School_place at h
  refine wp_aload_n X dX10_place_0 0 rfl ?_
  refine wp_iload_n X dX10_place_1 1 rfl ?_
  refine cv_School_machineAt X dX10_place_2 ml_X10_162  h (Nat.le_of_ble_eq_true rfl) (by decide) (fun r2 I2 J2 h => ?_)
  refine wp_astoreQ (L' := [(4, rfN (ad Γ) r2), (0, .ref (ad Γ 0)), (1, .int x1), (2, .long x2)]) X dX10_place_5 (by decide) rfl ?_
  refine wp_aloadQ X dX10_place_7 0 rfl ?_
  refine wp_ifnull (q := r2) (tgt := 19) X dX10_place_9 (by decide) ?_ ?_
  · intro hq; subst hq
    refine wp_ldc2 X kl_X10_183 dX10_place_19 ?_
    exact wp_lret X Y dX10_place_22 ⟨_, rfl, h⟩
  · intro a9 hq; subst hq; obtain ⟨oka9, h⟩ := h
    refine wp_lload_n X dX10_place_12 3 rfl ?_
    refine cs_Words_isWord X dX10_place_13 ml_X10_170  h (Nat.le_of_ble_eq_true rfl) (by decide) (fun r13 I13 J13 h => ?_)
    refine wp_if_ne (tgt := 23) X dX10_place_16 (by decide) (fun hc => ?_) (fun hc => ?_)
    · have h := ite_f h hc
      refine wp_aload_n X dX10_place_23 1 rfl ?_
      refine gf_X10_32 (o' := 23) X sh_0 rfl dX10_place_24 ?_
      refine wp_aload X dX10_place_27 0 rfl ?_
      refine wp_lload_n X dX10_place_29 3 rfl ?_
      refine cv_Tally_wordsBefore X dX10_place_30 ml_X10_193 oka9 h (Nat.le_of_ble_eq_true rfl) (by decide) (fun r30 I30 J30 h => ?_)
      exact wp_lret X Y dX10_place_33 ⟨_, rfl, h⟩
    · have h := ite_t h hc
      refine wp_ldc2 X kl_X10_183 dX10_place_19 ?_
      exact wp_lret X Y dX10_place_22 ⟨_, rfl, h⟩

theorem c_School_place {l : Launch} {g : GE} (hg : Inj g) {I : MI} {J : MJ} {Q : Int64 → MI → MJ → Prop} {x1 : Int32} {x2 : Int64}  (h : f_School_place x1 x2 I J Q) : Cm l g yX10_place cX10_place 5 (Option.some Jvm.ClassFile.FieldType.long) 5 [.ref (g.1 0), .int x1, .long x2] I J (Pl Q) := by
  refine Cm.of (As := fun ad => [.ref (ad 0), .int x1, .long x2]) hg pn_X10 (Nat.le_of_ble_eq_true rfl) ?_
  exact (fun Γ _ _ X Y => w_School_place_b0 X Y  h)
theorem cv_School_place {Γ : Ctx} {cc : ByteArray} {nL d pc index : Nat} {own : String} {L : List (Nat × Value)} {rest : List Value} {I : MI} {J : MJ} {Q : Int64 → MI → MJ → Prop} {x1 : Int32} {x2 : Int64} (X : Cx Γ cc nL own d) (hd : decode cc pc = .ok (.invokevirtual index, 3)) (hlink : Cond.methodLink own index yX10_place ∈ TT)  (h : f_School_place x1 x2 I J Q) (hrest : (rest.map fun v => v.category).sum ≤ 8) (hdd : 5 + 1 ≤ d) (kk : ∀ (r : Int64) (I' : MI) (J' : MJ), Q r I' J' → Wp Γ nL (pc + 3) L (.long r :: rest) I' J') : Wp Γ nL pc L (.long x2 :: .int x1 :: .ref (ad Γ 0) :: rest) I J :=
  wp_callV (As := [.int x1, .long x2]) (rest := rest) (T := TX10) (N := 9) X hd hlink mv_X10_place sh_0 (by decide) rfl (c_School_place X.inj  h) rfl rfl hrest hdd (fun v I' J' hv => by obtain ⟨r, rfl, hq⟩ := hv; exact kk r I' J' hq)
theorem dX0_wipe_0 : decode cX0_wipe 0 = .ok (.iconst 0, 1) := by decide +kernel
theorem dX0_wipe_1 : decode cX0_wipe 1 = .ok (.istore_n 1, 1) := by decide +kernel
theorem dX0_wipe_2 : decode cX0_wipe 2 = .ok (.iload_n 1, 1) := by decide +kernel
theorem dX0_wipe_3 : decode cX0_wipe 3 = .ok (.aload_n 0, 1) := by decide +kernel
theorem dX0_wipe_4 : decode cX0_wipe 4 = .ok (.getfield 40, 3) := by decide +kernel
theorem dX0_wipe_7 : decode cX0_wipe 7 = .ok (.if_icmp .ge 21, 3) := by decide +kernel
theorem dX0_wipe_10 : decode cX0_wipe 10 = .ok (.aload_n 0, 1) := by decide +kernel
theorem dX0_wipe_11 : decode cX0_wipe 11 = .ok (.getfield 18, 3) := by decide +kernel
theorem dX0_wipe_14 : decode cX0_wipe 14 = .ok (.aload_n 0, 1) := by decide +kernel
theorem dX0_wipe_15 : decode cX0_wipe 15 = .ok (.getfield 15, 3) := by decide +kernel
theorem dX0_wipe_18 : decode cX0_wipe 18 = .ok (.iload_n 1, 1) := by decide +kernel
theorem dX0_wipe_19 : decode cX0_wipe 19 = .ok (.iaload, 1) := by decide +kernel
theorem dX0_wipe_20 : decode cX0_wipe 20 = .ok (.iconst 0, 1) := by decide +kernel
theorem dX0_wipe_21 : decode cX0_wipe 21 = .ok (.iastore, 1) := by decide +kernel
theorem dX0_wipe_22 : decode cX0_wipe 22 = .ok (.iinc 1 1, 3) := by decide +kernel
theorem dX0_wipe_25 : decode cX0_wipe 25 = .ok (.goto (-23), 3) := by decide +kernel
theorem dX0_wipe_28 : decode cX0_wipe 28 = .ok (.aload_n 0, 1) := by decide +kernel
theorem dX0_wipe_29 : decode cX0_wipe 29 = .ok (.iconst 0, 1) := by decide +kernel
theorem dX0_wipe_30 : decode cX0_wipe 30 = .ok (.putfield 40, 3) := by decide +kernel
theorem dX0_wipe_33 : decode cX0_wipe 33 = .ok (.return_, 1) := by decide +kernel
def f_Chart_wipe_L2 (k28 : MI → MJ → Prop) : Nat → Int32 → MI → MJ → Prop
  | 0, _, _, _ => False
  | nf2 + 1, x1, I, J =>
  (if (I 2 0) ≤ x1 then k28 I J else vp_in x1 225 ∧ vp_in (I 4 x1.toNatClampNeg) 512 ∧ ∀ I21 : MI, I21 = sI I 5 (upd (I 5) (I 4 x1.toNatClampNeg).toNatClampNeg 0) → ∀ t22 : Int32, t22 = x1 + 1 → f_Chart_wipe_L2 k28 nf2 t22 I21 J)
def f_Chart_wipe (I : MI) (J : MJ) (Q : MI → MJ → Prop) : Prop :=
  ∃ n, f_Chart_wipe_L2 (fun (I : MI) (J : MJ) => ∀ I30 : MI, I30 = sI I 2 (upd (I 2) 0 0) → Q I30 J) n 0 I J
set_option maxRecDepth 100000 in
set_option maxHeartbeats 4000000 in
theorem w_Chart_wipe_L2 {Γ : Ctx} {Q : MI → MJ → Prop}  {k28 : MI → MJ → Prop} (X : Cx Γ cX0_wipe 2 RX0 0) (Y : Rt Γ (Pv Q) (Option.none : Option Jvm.ClassFile.FieldType))  (hk28 : ∀ (I : MI) (J : MJ), k28 I J → Wp Γ 2 28 [(0, .ref (ad Γ 2))] [] I J) : ∀ (n : Nat) (x1 : Int32) (I : MI) (J : MJ), f_Chart_wipe_L2 k28 n x1 I J → Wp Γ 2 2 [(0, .ref (ad Γ 2)), (1, .int x1)] [] I J := by
  intro n
  induction n with
  | zero => intro x1 I J h; exact absurd h (by simp [f_Chart_wipe_L2])
  | succ n ih =>
  intro x1 I J h
  unfold f_Chart_wipe_L2 at h
  refine wp_iload_n X dX0_wipe_2 1 rfl ?_
  refine wp_aload_n X dX0_wipe_3 0 rfl ?_
  refine gf_X0_40 X sh_2 dX0_wipe_4 ?_
  refine wp_icmp_ge (tgt := 28) X dX0_wipe_7 (by decide) (fun hc => ?_) (fun hc => ?_)
  · have h := ite_t h hc
    refine wp_sub X [0] rfl ?_
    exact hk28 _ _ h
  · have h := ite_f h hc
    refine wp_aload_n X dX0_wipe_10 0 rfl ?_
    refine gf_X0_18 (o' := 5) X sh_2 rfl dX0_wipe_11 ?_
    refine wp_aload_n X dX0_wipe_14 0 rfl ?_
    refine gf_X0_15 (o' := 4) X sh_2 rfl dX0_wipe_15 ?_
    refine wp_iload_n X dX0_wipe_18 1 rfl ?_
    obtain ⟨hb19, h⟩ := h
    refine wp_iald X sh_4 hb19 dX0_wipe_19 ?_
    refine wp_iconst X dX0_wipe_20 ic_0 ?_
    obtain ⟨hb21, h⟩ := h
    refine wp_iast X sh_5 hb21 dX0_wipe_21 ?_
    refine wp_memI (fun I21 eI21 => ?_)
    have h := h I21 eI21
    obtain ⟨t22, et22⟩ : ∃ y : Int32, y = x1 + 1 := ⟨_, rfl⟩
    have h := h t22 et22
    refine wp_iinc (L' := [(1, .int t22), (0, .ref (ad Γ 2))]) X dX0_wipe_22 1 rfl (ii_1 et22) (by decide) rfl ?_
    refine wp_goto (tgt := 2) X dX0_wipe_25 (by decide) ?_
    refine wp_sub X [1, 0] rfl ?_
    exact ih _ _ _ h

set_option maxRecDepth 100000 in
set_option maxHeartbeats 4000000 in
theorem w_Chart_wipe_b0 {Γ : Ctx} {Q : MI → MJ → Prop}   (X : Cx Γ cX0_wipe 2 RX0 0) (Y : Rt Γ (Pv Q) (Option.none : Option Jvm.ClassFile.FieldType))   {I : MI} {J : MJ} (h : f_Chart_wipe  I J Q) : Wp Γ 2 0 [(0, .ref (ad Γ 2))] [] I J := by
  unfold f_Chart_wipe at h
  refine wp_iconst X dX0_wipe_0 ic_0 ?_
  refine wp_istore_n (L' := [(1, .int 0), (0, .ref (ad Γ 2))]) X dX0_wipe_1 rfl (by decide) rfl ?_
  obtain ⟨n, h⟩ := h
  refine wp_sub X [1, 0] rfl ?_
  refine w_Chart_wipe_L2 X Y  ?_ n _ _ _ h
  · intro I J h
    refine wp_aload_n X dX0_wipe_28 0 rfl ?_
    refine wp_iconst X dX0_wipe_29 ic_0 ?_
    refine pf_X0_40 X sh_2 dX0_wipe_30 (fun I30 eI30 => ?_)
    have h := h I30 eI30
    exact wp_vret X Y dX0_wipe_33 ⟨rfl, h⟩

theorem c_Chart_wipe {l : Launch} {g : GE} (hg : Inj g) {I : MI} {J : MJ} {Q : MI → MJ → Prop}   (h : f_Chart_wipe  I J Q) : Cm l g yX0_wipe cX0_wipe 2 (Option.none : Option Jvm.ClassFile.FieldType) 0 [.ref (g.1 2)] I J (Pv Q) := by
  refine Cm.of (As := fun ad => [.ref (ad 2)]) hg pn_X0 (Nat.le_of_ble_eq_true rfl) ?_
  exact (fun Γ _ _ X Y => w_Chart_wipe_b0 X Y  h)
theorem cv_Chart_wipe {Γ : Ctx} {cc : ByteArray} {nL d pc index : Nat} {own : String} {L : List (Nat × Value)} {rest : List Value} {I : MI} {J : MJ} {Q : MI → MJ → Prop}  (X : Cx Γ cc nL own d) (hd : decode cc pc = .ok (.invokevirtual index, 3)) (hlink : Cond.methodLink own index yX0_wipe ∈ TT)  (h : f_Chart_wipe  I J Q) (hrest : (rest.map fun v => v.category).sum ≤ 8) (hdd : 0 + 1 ≤ d) (kk : ∀ (I' : MI) (J' : MJ), Q I' J' → Wp Γ nL (pc + 3) L rest I' J') : Wp Γ nL pc L (.ref (ad Γ 2) :: rest) I J :=
  wp_callV (As := []) (rest := rest) (T := TX0) (N := 12) X hd hlink mv_X0_wipe sh_2 (by decide) rfl (c_Chart_wipe X.inj  h) rfl rfl hrest hdd (fun v I' J' hv => by obtain ⟨rfl, hq⟩ := hv; exact kk I' J' hq)
theorem dX3_firstKey_0 : decode cX3_firstKey 0 = .ok (.iconst 0, 1) := by decide +kernel
theorem dX3_firstKey_1 : decode cX3_firstKey 1 = .ok (.ireturn, 1) := by decide +kernel
def f_Machine_firstKey (o : Nat) (I : MI) (J : MJ) (Q : Int32 → MI → MJ → Prop) : Prop :=
  Q 0 I J
set_option maxRecDepth 100000 in
set_option maxHeartbeats 4000000 in
theorem w_Machine_firstKey_b0 {Γ : Ctx} {Q : Int32 → MI → MJ → Prop} {o : Nat}  (X : Cx Γ cX3_firstKey 1 RX3 0) (Y : Rt Γ (Pi Q) (Option.some Jvm.ClassFile.FieldType.int)) (ho : okM o)  {I : MI} {J : MJ} (h : f_Machine_firstKey o I J Q) : Wp Γ 1 0 [(0, .ref (ad Γ o))] [] I J := by
  unfold f_Machine_firstKey at h
  refine wp_iconst X dX3_firstKey_0 ic_0 ?_
  exact wp_iret X Y dX3_firstKey_1 ⟨_, rfl, h⟩

theorem c_Machine_firstKey {l : Launch} {g : GE} (hg : Inj g) {I : MI} {J : MJ} {Q : Int32 → MI → MJ → Prop} {o : Nat} (ho : okM o) (h : f_Machine_firstKey o I J Q) : Cm l g yX3_firstKey cX3_firstKey 1 (Option.some Jvm.ClassFile.FieldType.int) 0 [.ref (g.1 o)] I J (Pi Q) := by
  refine Cm.of (As := fun ad => [.ref (ad o)]) hg pn_X3 (Nat.le_of_ble_eq_true rfl) ?_
  exact (fun Γ _ _ X Y => w_Machine_firstKey_b0 X Y ho h)
theorem cu_Machine_firstKey {Γ : Ctx} {cc : ByteArray} {nL d pc index : Nat} {own : String} {L : List (Nat × Value)} {rest : List Value} {I : MI} {J : MJ} {Q : Int32 → MI → MJ → Prop} {o : Nat} (X : Cx Γ cc nL own d) (hd : decode cc pc = .ok (.invokevirtual index, 3)) (hlink : Cond.methodLink own index ⟨RX8, "firstKey", "()I"⟩ ∈ TT) (ho : okM o) (h : f_Machine_firstKey o I J Q) (hrest : (rest.map fun v => v.category).sum ≤ 8) (hdd : 0 + 1 ≤ d) (kk : ∀ (r : Int32) (I' : MI) (J' : MJ), Q r I' J' → Wp Γ nL (pc + 3) L (.int r :: rest) I' J') : Wp Γ nL pc L (.ref (ad Γ o) :: rest) I J :=
  wp_callU (x := ⟨RX8, "firstKey", "()I"⟩) (n := 0) (As := []) (rest := rest) (T := TX3) (N := 7) X hd hlink rfl (fun g U h => h.2.1) (TT_at 716 (by decide +kernel) rfl) (TT_at 730 (by decide +kernel) rfl) (TT_at 731 (by decide +kernel) rfl) (TT_at 112 (by decide +kernel) rfl) (TT_at 732 (by decide +kernel) rfl) (by decide +kernel) (by decide) ho.1 (by decide) rfl (c_Machine_firstKey X.inj ho h) rfl rfl hrest hdd (fun v I' J' hv => by obtain ⟨r, rfl, hq⟩ := hv; exact kk r I' J' hq)
theorem dX0_nodeOf_0 : decode cX0_nodeOf 0 = .ok (.iload_n 1, 1) := by decide +kernel
theorem dX0_nodeOf_1 : decode cX0_nodeOf 1 = .ok (.ldc 44, 2) := by decide +kernel
theorem dX0_nodeOf_3 : decode cX0_nodeOf 3 = .ok (.imul, 1) := by decide +kernel
theorem dX0_nodeOf_4 : decode cX0_nodeOf 4 = .ok (.bipush 23, 2) := by decide +kernel
theorem dX0_nodeOf_6 : decode cX0_nodeOf 6 = .ok (.iushr, 1) := by decide +kernel
theorem dX0_nodeOf_7 : decode cX0_nodeOf 7 = .ok (.istore_n 3, 1) := by decide +kernel
theorem dX0_nodeOf_8 : decode cX0_nodeOf 8 = .ok (.iconst 0, 1) := by decide +kernel
theorem dX0_nodeOf_9 : decode cX0_nodeOf 9 = .ok (.istore 4, 2) := by decide +kernel
theorem dX0_nodeOf_11 : decode cX0_nodeOf 11 = .ok (.iload 4, 2) := by decide +kernel
theorem dX0_nodeOf_13 : decode cX0_nodeOf 13 = .ok (.sipush 512, 3) := by decide +kernel
theorem dX0_nodeOf_16 : decode cX0_nodeOf 16 = .ok (.if_icmp .ge 124, 3) := by decide +kernel
theorem dX0_nodeOf_19 : decode cX0_nodeOf 19 = .ok (.aload_n 0, 1) := by decide +kernel
theorem dX0_nodeOf_20 : decode cX0_nodeOf 20 = .ok (.getfield 18, 3) := by decide +kernel
theorem dX0_nodeOf_23 : decode cX0_nodeOf 23 = .ok (.iload_n 3, 1) := by decide +kernel
theorem dX0_nodeOf_24 : decode cX0_nodeOf 24 = .ok (.iaload, 1) := by decide +kernel
theorem dX0_nodeOf_25 : decode cX0_nodeOf 25 = .ok (.iconst 1, 1) := by decide +kernel
theorem dX0_nodeOf_26 : decode cX0_nodeOf 26 = .ok (.isub, 1) := by decide +kernel
theorem dX0_nodeOf_27 : decode cX0_nodeOf 27 = .ok (.istore 5, 2) := by decide +kernel
theorem dX0_nodeOf_29 : decode cX0_nodeOf 29 = .ok (.iload 5, 2) := by decide +kernel
theorem dX0_nodeOf_31 : decode cX0_nodeOf 31 = .ok (.ifCond .lt 17, 3) := by decide +kernel
theorem dX0_nodeOf_34 : decode cX0_nodeOf 34 = .ok (.aload_n 0, 1) := by decide +kernel
theorem dX0_nodeOf_35 : decode cX0_nodeOf 35 = .ok (.getfield 9, 3) := by decide +kernel
theorem dX0_nodeOf_38 : decode cX0_nodeOf 38 = .ok (.iload 5, 2) := by decide +kernel
theorem dX0_nodeOf_40 : decode cX0_nodeOf 40 = .ok (.iaload, 1) := by decide +kernel
theorem dX0_nodeOf_41 : decode cX0_nodeOf 41 = .ok (.iload_n 1, 1) := by decide +kernel
theorem dX0_nodeOf_42 : decode cX0_nodeOf 42 = .ok (.if_icmp .ne 6, 3) := by decide +kernel
theorem dX0_nodeOf_45 : decode cX0_nodeOf 45 = .ok (.iload 5, 2) := by decide +kernel
theorem dX0_nodeOf_47 : decode cX0_nodeOf 47 = .ok (.ireturn, 1) := by decide +kernel
theorem dX0_nodeOf_48 : decode cX0_nodeOf 48 = .ok (.iload 5, 2) := by decide +kernel
theorem dX0_nodeOf_50 : decode cX0_nodeOf 50 = .ok (.ifCond .ge 24, 3) := by decide +kernel
theorem dX0_nodeOf_53 : decode cX0_nodeOf 53 = .ok (.aload_n 0, 1) := by decide +kernel
theorem dX0_nodeOf_54 : decode cX0_nodeOf 54 = .ok (.getfield 40, 3) := by decide +kernel
theorem dX0_nodeOf_57 : decode cX0_nodeOf 57 = .ok (.iload_n 2, 1) := by decide +kernel
theorem dX0_nodeOf_58 : decode cX0_nodeOf 58 = .ok (.if_icmp .ge 13, 3) := by decide +kernel
theorem dX0_nodeOf_61 : decode cX0_nodeOf 61 = .ok (.aload_n 0, 1) := by decide +kernel
theorem dX0_nodeOf_62 : decode cX0_nodeOf 62 = .ok (.getfield 40, 3) := by decide +kernel
theorem dX0_nodeOf_65 : decode cX0_nodeOf 65 = .ok (.sipush 225, 3) := by decide +kernel
theorem dX0_nodeOf_68 : decode cX0_nodeOf 68 = .ok (.if_icmp .lt 6, 3) := by decide +kernel
theorem dX0_nodeOf_71 : decode cX0_nodeOf 71 = .ok (.bipush (-2), 2) := by decide +kernel
theorem dX0_nodeOf_73 : decode cX0_nodeOf 73 = .ok (.ireturn, 1) := by decide +kernel
theorem dX0_nodeOf_74 : decode cX0_nodeOf 74 = .ok (.iload 5, 2) := by decide +kernel
theorem dX0_nodeOf_76 : decode cX0_nodeOf 76 = .ok (.ifCond .ge 50, 3) := by decide +kernel
theorem dX0_nodeOf_79 : decode cX0_nodeOf 79 = .ok (.aload_n 0, 1) := by decide +kernel
theorem dX0_nodeOf_80 : decode cX0_nodeOf 80 = .ok (.getfield 9, 3) := by decide +kernel
theorem dX0_nodeOf_83 : decode cX0_nodeOf 83 = .ok (.aload_n 0, 1) := by decide +kernel
theorem dX0_nodeOf_84 : decode cX0_nodeOf 84 = .ok (.getfield 40, 3) := by decide +kernel
theorem dX0_nodeOf_87 : decode cX0_nodeOf 87 = .ok (.iload_n 1, 1) := by decide +kernel
theorem dX0_nodeOf_88 : decode cX0_nodeOf 88 = .ok (.iastore, 1) := by decide +kernel
theorem dX0_nodeOf_89 : decode cX0_nodeOf 89 = .ok (.aload_n 0, 1) := by decide +kernel
theorem dX0_nodeOf_90 : decode cX0_nodeOf 90 = .ok (.getfield 15, 3) := by decide +kernel
theorem dX0_nodeOf_93 : decode cX0_nodeOf 93 = .ok (.aload_n 0, 1) := by decide +kernel
theorem dX0_nodeOf_94 : decode cX0_nodeOf 94 = .ok (.getfield 40, 3) := by decide +kernel
theorem dX0_nodeOf_97 : decode cX0_nodeOf 97 = .ok (.iload_n 3, 1) := by decide +kernel
theorem dX0_nodeOf_98 : decode cX0_nodeOf 98 = .ok (.iastore, 1) := by decide +kernel
theorem dX0_nodeOf_99 : decode cX0_nodeOf 99 = .ok (.aload_n 0, 1) := by decide +kernel
theorem dX0_nodeOf_100 : decode cX0_nodeOf 100 = .ok (.dup, 1) := by decide +kernel
theorem dX0_nodeOf_101 : decode cX0_nodeOf 101 = .ok (.getfield 40, 3) := by decide +kernel
theorem dX0_nodeOf_104 : decode cX0_nodeOf 104 = .ok (.iconst 1, 1) := by decide +kernel
theorem dX0_nodeOf_105 : decode cX0_nodeOf 105 = .ok (.iadd, 1) := by decide +kernel
theorem dX0_nodeOf_106 : decode cX0_nodeOf 106 = .ok (.putfield 40, 3) := by decide +kernel
theorem dX0_nodeOf_109 : decode cX0_nodeOf 109 = .ok (.aload_n 0, 1) := by decide +kernel
theorem dX0_nodeOf_110 : decode cX0_nodeOf 110 = .ok (.getfield 18, 3) := by decide +kernel
theorem dX0_nodeOf_113 : decode cX0_nodeOf 113 = .ok (.iload_n 3, 1) := by decide +kernel
theorem dX0_nodeOf_114 : decode cX0_nodeOf 114 = .ok (.aload_n 0, 1) := by decide +kernel
theorem dX0_nodeOf_115 : decode cX0_nodeOf 115 = .ok (.getfield 40, 3) := by decide +kernel
theorem dX0_nodeOf_118 : decode cX0_nodeOf 118 = .ok (.iastore, 1) := by decide +kernel
theorem dX0_nodeOf_119 : decode cX0_nodeOf 119 = .ok (.aload_n 0, 1) := by decide +kernel
theorem dX0_nodeOf_120 : decode cX0_nodeOf 120 = .ok (.getfield 40, 3) := by decide +kernel
theorem dX0_nodeOf_123 : decode cX0_nodeOf 123 = .ok (.iconst 1, 1) := by decide +kernel
theorem dX0_nodeOf_124 : decode cX0_nodeOf 124 = .ok (.isub, 1) := by decide +kernel
theorem dX0_nodeOf_125 : decode cX0_nodeOf 125 = .ok (.ireturn, 1) := by decide +kernel
theorem dX0_nodeOf_126 : decode cX0_nodeOf 126 = .ok (.iload_n 3, 1) := by decide +kernel
theorem dX0_nodeOf_127 : decode cX0_nodeOf 127 = .ok (.iconst 1, 1) := by decide +kernel
theorem dX0_nodeOf_128 : decode cX0_nodeOf 128 = .ok (.iadd, 1) := by decide +kernel
theorem dX0_nodeOf_129 : decode cX0_nodeOf 129 = .ok (.sipush 512, 3) := by decide +kernel
theorem dX0_nodeOf_132 : decode cX0_nodeOf 132 = .ok (.irem, 1) := by decide +kernel
theorem dX0_nodeOf_133 : decode cX0_nodeOf 133 = .ok (.istore_n 3, 1) := by decide +kernel
theorem dX0_nodeOf_134 : decode cX0_nodeOf 134 = .ok (.iinc 4 1, 3) := by decide +kernel
theorem dX0_nodeOf_137 : decode cX0_nodeOf 137 = .ok (.goto (-126), 3) := by decide +kernel
theorem dX0_nodeOf_140 : decode cX0_nodeOf 140 = .ok (.bipush (-2), 2) := by decide +kernel
theorem dX0_nodeOf_142 : decode cX0_nodeOf 142 = .ok (.ireturn, 1) := by decide +kernel
def f_Chart_nodeOf_b74 (x3 : Int32) (x4 : Int32) (x5 : Int32) (kh : Int32 → Int32 → MI → MJ → Prop) (k79 : Int32 → MI → MJ → Prop) (I : MI) (J : MJ) : Prop :=
  (if 0 ≤ x5 then ∀ t133 : Int32, t133 = (x3 + 1) - (x3 + 1) / 512 * 512 → ∀ t134 : Int32, t134 = x4 + 1 → kh t133 t134 I J else k79 x3 I J)
def f_Chart_nodeOf_b48 (x2 : Int32) (x3 : Int32) (x4 : Int32) (x5 : Int32) (kh : Int32 → Int32 → MI → MJ → Prop) (k71 : MI → MJ → Prop) (k79 : Int32 → MI → MJ → Prop) (I : MI) (J : MJ) : Prop :=
  (if 0 ≤ x5 then f_Chart_nodeOf_b74 x3 x4 x5 kh k79 I J else (if x2 ≤ (I 2 0) then k71 I J else (if (I 2 0) < 225 then f_Chart_nodeOf_b74 x3 x4 x5 kh k79 I J else k71 I J)))
def f_Chart_nodeOf_L11 (x1 : Int32) (x2 : Int32) (k45 : Int32 → MI → MJ → Prop) (k71 : MI → MJ → Prop) (k79 : Int32 → MI → MJ → Prop) (k140 : MI → MJ → Prop) : Nat → Int32 → Int32 → MI → MJ → Prop
  | 0, _, _, _, _ => False
  | nf11 + 1, x3, x4, I, J =>
  (if 512 ≤ x4 then k140 I J else vp_in x3 512 ∧ ∀ t27 : Int32, t27 = (I 5 x3.toNatClampNeg) - 1 → (if t27 < 0 then f_Chart_nodeOf_b48 x2 x3 x4 t27 (f_Chart_nodeOf_L11 x1 x2 k45 k71 k79 k140 nf11) k71 k79 I J else vp_in t27 225 ∧ (if (I 3 t27.toNatClampNeg) = x1 then k45 t27 I J else f_Chart_nodeOf_b48 x2 x3 x4 t27 (f_Chart_nodeOf_L11 x1 x2 k45 k71 k79 k140 nf11) k71 k79 I J)))
def f_Chart_nodeOf (x1 : Int32) (x2 : Int32) (I : MI) (J : MJ) (Q : Int32 → MI → MJ → Prop) : Prop :=
  ∀ t7 : Int32, t7 = ((x1 * (-1640531535)).toUInt32 >>> ((23 : Int32).toUInt32 &&& Int32.toUInt32 31)).toInt32 → ∃ n, f_Chart_nodeOf_L11 x1 x2 (fun (z45_x5 : Int32) (I : MI) (J : MJ) => Q z45_x5 I J) (fun (I : MI) (J : MJ) => Q (-2) I J) (fun (z79_x3 : Int32) (I : MI) (J : MJ) => vp_in (I 2 0) 225 ∧ ∀ I88 : MI, I88 = sI I 3 (upd (I 3) (I 2 0).toNatClampNeg x1) → vp_in (I88 2 0) 225 ∧ ∀ I98 : MI, I98 = sI I88 4 (upd (I88 4) (I88 2 0).toNatClampNeg z79_x3) → ∀ I106 : MI, I106 = sI I98 2 (upd (I98 2) 0 ((I98 2 0) + 1)) → vp_in z79_x3 512 ∧ ∀ I118 : MI, I118 = sI I106 5 (upd (I106 5) z79_x3.toNatClampNeg (I106 2 0)) → Q ((I118 2 0) - 1) I118 J) (fun (I : MI) (J : MJ) => Q (-2) I J) n t7 0 I J
set_option maxRecDepth 100000 in
set_option maxHeartbeats 4000000 in
theorem w_Chart_nodeOf_b74 {Γ : Ctx} {Q : Int32 → MI → MJ → Prop} {x1 : Int32} {x2 : Int32} {x3 : Int32} {x4 : Int32} {x5 : Int32} {kh : Int32 → Int32 → MI → MJ → Prop} {k79 : Int32 → MI → MJ → Prop} (X : Cx Γ cX0_nodeOf 6 RX0 0) (Y : Rt Γ (Pi Q) (Option.some Jvm.ClassFile.FieldType.int))  (hkh : ∀ (x3 : Int32) (x4 : Int32) (I : MI) (J : MJ), kh x3 x4 I J → Wp Γ 6 11 [(0, .ref (ad Γ 2)), (1, .int x1), (2, .int x2), (3, .int x3), (4, .int x4)] [] I J) (hk79 : ∀ (x3 : Int32) (I : MI) (J : MJ), k79 x3 I J → Wp Γ 6 79 [(0, .ref (ad Γ 2)), (1, .int x1), (3, .int x3)] [] I J) {I : MI} {J : MJ} (h : f_Chart_nodeOf_b74 x3 x4 x5 kh k79 I J) : Wp Γ 6 74 [(0, .ref (ad Γ 2)), (1, .int x1), (2, .int x2), (3, .int x3), (4, .int x4), (5, .int x5)] [] I J := by
  unfold f_Chart_nodeOf_b74 at h
  refine wp_iload X dX0_nodeOf_74 5 rfl ?_
  refine wp_if_ge (tgt := 126) X dX0_nodeOf_76 (by decide) (fun hc => ?_) (fun hc => ?_)
  · have h := ite_t h hc
    refine wp_iload_n X dX0_nodeOf_126 3 rfl ?_
    refine wp_iconst X dX0_nodeOf_127 ic_1 ?_
    refine wp_iadd X dX0_nodeOf_128 ?_
    refine wp_sipush X dX0_nodeOf_129 si_512 ?_
    refine wp_irem X dX0_nodeOf_132 (by decide) ?_
    refine wp_topi (fun t133 et133 => ?_)
    have h := h t133 et133
    refine wp_istore_n (L' := [(3, .int t133), (0, .ref (ad Γ 2)), (1, .int x1), (2, .int x2), (4, .int x4), (5, .int x5)]) X dX0_nodeOf_133 rfl (by decide) rfl ?_
    obtain ⟨t134, et134⟩ : ∃ y : Int32, y = x4 + 1 := ⟨_, rfl⟩
    have h := h t134 et134
    refine wp_iinc (L' := [(4, .int t134), (3, .int t133), (0, .ref (ad Γ 2)), (1, .int x1), (2, .int x2), (5, .int x5)]) X dX0_nodeOf_134 4 rfl (ii_1 et134) (by decide) rfl ?_
    refine wp_goto (tgt := 11) X dX0_nodeOf_137 (by decide) ?_
    refine wp_sub X [2, 3, 4, 1, 0] rfl ?_
    exact hkh _ _ _ _ h
  · have h := ite_f h hc
    refine wp_sub X [0, 1, 3] rfl ?_
    exact hk79 _ _ _ h

set_option maxRecDepth 100000 in
set_option maxHeartbeats 4000000 in
theorem w_Chart_nodeOf_b48 {Γ : Ctx} {Q : Int32 → MI → MJ → Prop} {x1 : Int32} {x2 : Int32} {x3 : Int32} {x4 : Int32} {x5 : Int32} {kh : Int32 → Int32 → MI → MJ → Prop} {k71 : MI → MJ → Prop} {k79 : Int32 → MI → MJ → Prop} (X : Cx Γ cX0_nodeOf 6 RX0 0) (Y : Rt Γ (Pi Q) (Option.some Jvm.ClassFile.FieldType.int))  (hkh : ∀ (x3 : Int32) (x4 : Int32) (I : MI) (J : MJ), kh x3 x4 I J → Wp Γ 6 11 [(0, .ref (ad Γ 2)), (1, .int x1), (2, .int x2), (3, .int x3), (4, .int x4)] [] I J) (hk71 : ∀ (I : MI) (J : MJ), k71 I J → Wp Γ 6 71 [] [] I J) (hk79 : ∀ (x3 : Int32) (I : MI) (J : MJ), k79 x3 I J → Wp Γ 6 79 [(0, .ref (ad Γ 2)), (1, .int x1), (3, .int x3)] [] I J) {I : MI} {J : MJ} (h : f_Chart_nodeOf_b48 x2 x3 x4 x5 kh k71 k79 I J) : Wp Γ 6 48 [(0, .ref (ad Γ 2)), (1, .int x1), (2, .int x2), (3, .int x3), (4, .int x4), (5, .int x5)] [] I J := by
  unfold f_Chart_nodeOf_b48 at h
  refine wp_iload X dX0_nodeOf_48 5 rfl ?_
  refine wp_if_ge (tgt := 74) X dX0_nodeOf_50 (by decide) (fun hc => ?_) (fun hc => ?_)
  · have h := ite_t h hc
    exact w_Chart_nodeOf_b74 X Y hkh hk79 h
  · have h := ite_f h hc
    refine wp_aload_n X dX0_nodeOf_53 0 rfl ?_
    refine gf_X0_40 X sh_2 dX0_nodeOf_54 ?_
    refine wp_iload_n X dX0_nodeOf_57 2 rfl ?_
    refine wp_icmp_ge (tgt := 71) X dX0_nodeOf_58 (by decide) (fun hc => ?_) (fun hc => ?_)
    · have h := ite_t h hc
      refine wp_sub X [] rfl ?_
      exact hk71 _ _ h
    · have h := ite_f h hc
      refine wp_aload_n X dX0_nodeOf_61 0 rfl ?_
      refine gf_X0_40 X sh_2 dX0_nodeOf_62 ?_
      refine wp_sipush X dX0_nodeOf_65 si_225 ?_
      refine wp_icmp_lt (tgt := 74) X dX0_nodeOf_68 (by decide) (fun hc => ?_) (fun hc => ?_)
      · have h := ite_t h hc
        exact w_Chart_nodeOf_b74 X Y hkh hk79 h
      · have h := ite_f h hc
        refine wp_sub X [] rfl ?_
        exact hk71 _ _ h

set_option maxRecDepth 100000 in
set_option maxHeartbeats 4000000 in
theorem w_Chart_nodeOf_L11 {Γ : Ctx} {Q : Int32 → MI → MJ → Prop} {x1 : Int32} {x2 : Int32} {k45 : Int32 → MI → MJ → Prop} {k71 : MI → MJ → Prop} {k79 : Int32 → MI → MJ → Prop} {k140 : MI → MJ → Prop} (X : Cx Γ cX0_nodeOf 6 RX0 0) (Y : Rt Γ (Pi Q) (Option.some Jvm.ClassFile.FieldType.int))  (hk45 : ∀ (x5 : Int32) (I : MI) (J : MJ), k45 x5 I J → Wp Γ 6 45 [(5, .int x5)] [] I J) (hk71 : ∀ (I : MI) (J : MJ), k71 I J → Wp Γ 6 71 [] [] I J) (hk79 : ∀ (x3 : Int32) (I : MI) (J : MJ), k79 x3 I J → Wp Γ 6 79 [(0, .ref (ad Γ 2)), (1, .int x1), (3, .int x3)] [] I J) (hk140 : ∀ (I : MI) (J : MJ), k140 I J → Wp Γ 6 140 [] [] I J) : ∀ (n : Nat) (x3 : Int32) (x4 : Int32) (I : MI) (J : MJ), f_Chart_nodeOf_L11 x1 x2 k45 k71 k79 k140 n x3 x4 I J → Wp Γ 6 11 [(0, .ref (ad Γ 2)), (1, .int x1), (2, .int x2), (3, .int x3), (4, .int x4)] [] I J := by
  intro n
  induction n with
  | zero => intro x3 x4 I J h; exact absurd h (by simp [f_Chart_nodeOf_L11])
  | succ n ih =>
  intro x3 x4 I J h
  unfold f_Chart_nodeOf_L11 at h
  refine wp_iload X dX0_nodeOf_11 4 rfl ?_
  refine wp_sipush X dX0_nodeOf_13 si_512 ?_
  refine wp_icmp_ge (tgt := 140) X dX0_nodeOf_16 (by decide) (fun hc => ?_) (fun hc => ?_)
  · have h := ite_t h hc
    refine wp_sub X [] rfl ?_
    exact hk140 _ _ h
  · have h := ite_f h hc
    refine wp_aload_n X dX0_nodeOf_19 0 rfl ?_
    refine gf_X0_18 (o' := 5) X sh_2 rfl dX0_nodeOf_20 ?_
    refine wp_iload_n X dX0_nodeOf_23 3 rfl ?_
    obtain ⟨hb24, h⟩ := h
    refine wp_iald X sh_5 hb24 dX0_nodeOf_24 ?_
    refine wp_iconst X dX0_nodeOf_25 ic_1 ?_
    refine wp_isub X dX0_nodeOf_26 ?_
    refine wp_topi (fun t27 et27 => ?_)
    have h := h t27 et27
    refine wp_istore (L' := [(5, .int t27), (0, .ref (ad Γ 2)), (1, .int x1), (2, .int x2), (3, .int x3), (4, .int x4)]) X dX0_nodeOf_27 (by decide) rfl ?_
    refine wp_iload X dX0_nodeOf_29 0 rfl ?_
    refine wp_if_lt (tgt := 48) X dX0_nodeOf_31 (by decide) (fun hc => ?_) (fun hc => ?_)
    · have h := ite_t h hc
      refine wp_sub X [1, 2, 3, 4, 5, 0] rfl ?_
      exact w_Chart_nodeOf_b48 X Y ih hk71 hk79 h
    · have h := ite_f h hc
      refine wp_aload_n X dX0_nodeOf_34 1 rfl ?_
      refine gf_X0_9 (o' := 3) X sh_2 rfl dX0_nodeOf_35 ?_
      refine wp_iload X dX0_nodeOf_38 0 rfl ?_
      obtain ⟨hb40, h⟩ := h
      refine wp_iald X sh_3 hb40 dX0_nodeOf_40 ?_
      refine wp_iload_n X dX0_nodeOf_41 2 rfl ?_
      refine wp_icmp_ne (tgt := 48) X dX0_nodeOf_42 (by decide) (fun hc => ?_) (fun hc => ?_)
      · have h := ite_f h hc
        refine wp_sub X [1, 2, 3, 4, 5, 0] rfl ?_
        exact w_Chart_nodeOf_b48 X Y ih hk71 hk79 h
      · have h := ite_t h hc
        refine wp_sub X [0] rfl ?_
        exact hk45 _ _ _ h

set_option maxRecDepth 100000 in
set_option maxHeartbeats 4000000 in
theorem w_Chart_nodeOf_b0 {Γ : Ctx} {Q : Int32 → MI → MJ → Prop} {x1 : Int32} {x2 : Int32}  (X : Cx Γ cX0_nodeOf 6 RX0 0) (Y : Rt Γ (Pi Q) (Option.some Jvm.ClassFile.FieldType.int))   {I : MI} {J : MJ} (h : f_Chart_nodeOf x1 x2 I J Q) : Wp Γ 6 0 [(0, .ref (ad Γ 2)), (1, .int x1), (2, .int x2)] [] I J := by
  unfold f_Chart_nodeOf at h
  refine wp_iload_n X dX0_nodeOf_0 1 rfl ?_
  refine wp_ldc X kc_X0_44 dX0_nodeOf_1 ?_
  refine wp_imul X dX0_nodeOf_3 ?_
  refine wp_bipush X dX0_nodeOf_4 bi_23 ?_
  refine wp_iushr X dX0_nodeOf_6 ?_
  refine wp_topi (fun t7 et7 => ?_)
  have h := h t7 et7
  refine wp_istore_n (L' := [(3, .int t7), (0, .ref (ad Γ 2)), (1, .int x1), (2, .int x2)]) X dX0_nodeOf_7 rfl (by decide) rfl ?_
  refine wp_iconst X dX0_nodeOf_8 ic_0 ?_
  refine wp_istore (L' := [(4, .int 0), (3, .int t7), (0, .ref (ad Γ 2)), (1, .int x1), (2, .int x2)]) X dX0_nodeOf_9 (by decide) rfl ?_
  obtain ⟨n, h⟩ := h
  refine wp_sub X [2, 3, 4, 1, 0] rfl ?_
  refine w_Chart_nodeOf_L11 X Y  ?_ ?_ ?_ ?_ n _ _ _ _ h
  · intro z45_x5 I J h
    refine wp_iload X dX0_nodeOf_45 0 rfl ?_
    exact wp_iret X Y dX0_nodeOf_47 ⟨_, rfl, h⟩
  · intro I J h
    refine wp_bipush X dX0_nodeOf_71 bi_m2 ?_
    exact wp_iret X Y dX0_nodeOf_73 ⟨_, rfl, h⟩
  · intro z79_x3 I J h
    refine wp_aload_n X dX0_nodeOf_79 0 rfl ?_
    refine gf_X0_9 (o' := 3) X sh_2 rfl dX0_nodeOf_80 ?_
    refine wp_aload_n X dX0_nodeOf_83 0 rfl ?_
    refine gf_X0_40 X sh_2 dX0_nodeOf_84 ?_
    refine wp_iload_n X dX0_nodeOf_87 1 rfl ?_
    obtain ⟨hb88, h⟩ := h
    refine wp_iast X sh_3 hb88 dX0_nodeOf_88 ?_
    refine wp_memI (fun I88 eI88 => ?_)
    have h := h I88 eI88
    refine wp_aload_n X dX0_nodeOf_89 0 rfl ?_
    refine gf_X0_15 (o' := 4) X sh_2 rfl dX0_nodeOf_90 ?_
    refine wp_aload_n X dX0_nodeOf_93 0 rfl ?_
    refine gf_X0_40 X sh_2 dX0_nodeOf_94 ?_
    refine wp_iload_n X dX0_nodeOf_97 2 rfl ?_
    obtain ⟨hb98, h⟩ := h
    refine wp_iast X sh_4 hb98 dX0_nodeOf_98 ?_
    refine wp_memI (fun I98 eI98 => ?_)
    have h := h I98 eI98
    refine wp_aload_n X dX0_nodeOf_99 0 rfl ?_
    refine wp_dup X dX0_nodeOf_100 rfl ?_
    refine gf_X0_40 X sh_2 dX0_nodeOf_101 ?_
    refine wp_iconst X dX0_nodeOf_104 ic_1 ?_
    refine wp_iadd X dX0_nodeOf_105 ?_
    refine pf_X0_40 X sh_2 dX0_nodeOf_106 (fun I106 eI106 => ?_)
    have h := h I106 eI106
    refine wp_aload_n X dX0_nodeOf_109 0 rfl ?_
    refine gf_X0_18 (o' := 5) X sh_2 rfl dX0_nodeOf_110 ?_
    refine wp_iload_n X dX0_nodeOf_113 2 rfl ?_
    refine wp_aload_n X dX0_nodeOf_114 0 rfl ?_
    refine gf_X0_40 X sh_2 dX0_nodeOf_115 ?_
    obtain ⟨hb118, h⟩ := h
    refine wp_iast X sh_5 hb118 dX0_nodeOf_118 ?_
    refine wp_memI (fun I118 eI118 => ?_)
    have h := h I118 eI118
    refine wp_aload_n X dX0_nodeOf_119 0 rfl ?_
    refine gf_X0_40 X sh_2 dX0_nodeOf_120 ?_
    refine wp_iconst X dX0_nodeOf_123 ic_1 ?_
    refine wp_isub X dX0_nodeOf_124 ?_
    exact wp_iret X Y dX0_nodeOf_125 ⟨_, rfl, h⟩
  · intro I J h
    refine wp_bipush X dX0_nodeOf_140 bi_m2 ?_
    exact wp_iret X Y dX0_nodeOf_142 ⟨_, rfl, h⟩

theorem c_Chart_nodeOf {l : Launch} {g : GE} (hg : Inj g) {I : MI} {J : MJ} {Q : Int32 → MI → MJ → Prop} {x1 : Int32} {x2 : Int32}  (h : f_Chart_nodeOf x1 x2 I J Q) : Cm l g yX0_nodeOf cX0_nodeOf 6 (Option.some Jvm.ClassFile.FieldType.int) 0 [.ref (g.1 2), .int x1, .int x2] I J (Pi Q) := by
  refine Cm.of (As := fun ad => [.ref (ad 2), .int x1, .int x2]) hg pn_X0 (Nat.le_of_ble_eq_true rfl) ?_
  exact (fun Γ _ _ X Y => w_Chart_nodeOf_b0 X Y  h)
theorem cv_Chart_nodeOf {Γ : Ctx} {cc : ByteArray} {nL d pc index : Nat} {own : String} {L : List (Nat × Value)} {rest : List Value} {I : MI} {J : MJ} {Q : Int32 → MI → MJ → Prop} {x1 : Int32} {x2 : Int32} (X : Cx Γ cc nL own d) (hd : decode cc pc = .ok (.invokevirtual index, 3)) (hlink : Cond.methodLink own index yX0_nodeOf ∈ TT)  (h : f_Chart_nodeOf x1 x2 I J Q) (hrest : (rest.map fun v => v.category).sum ≤ 8) (hdd : 0 + 1 ≤ d) (kk : ∀ (r : Int32) (I' : MI) (J' : MJ), Q r I' J' → Wp Γ nL (pc + 3) L (.int r :: rest) I' J') : Wp Γ nL pc L (.int x2 :: .int x1 :: .ref (ad Γ 2) :: rest) I J :=
  wp_callV (As := [.int x1, .int x2]) (rest := rest) (T := TX0) (N := 12) X hd hlink mv_X0_nodeOf sh_2 (by decide) rfl (c_Chart_nodeOf X.inj  h) rfl rfl hrest hdd (fun v I' J' hv => by obtain ⟨r, rfl, hq⟩ := hv; exact kk r I' J' hq)
theorem dX0_explore_0 : decode cX0_explore 0 = .ok (.aload_n 0, 1) := by decide +kernel
theorem dX0_explore_1 : decode cX0_explore 1 = .ok (.invokevirtual 45, 3) := by decide +kernel
theorem dX0_explore_4 : decode cX0_explore 4 = .ok (.aload_n 0, 1) := by decide +kernel
theorem dX0_explore_5 : decode cX0_explore 5 = .ok (.iload_n 2, 1) := by decide +kernel
theorem dX0_explore_6 : decode cX0_explore 6 = .ok (.putfield 48, 3) := by decide +kernel
theorem dX0_explore_9 : decode cX0_explore 9 = .ok (.aload_n 0, 1) := by decide +kernel
theorem dX0_explore_10 : decode cX0_explore 10 = .ok (.aload_n 1, 1) := by decide +kernel
theorem dX0_explore_11 : decode cX0_explore 11 = .ok (.invokevirtual 51, 3) := by decide +kernel
theorem dX0_explore_14 : decode cX0_explore 14 = .ok (.iload_n 3, 1) := by decide +kernel
theorem dX0_explore_15 : decode cX0_explore 15 = .ok (.invokevirtual 57, 3) := by decide +kernel
theorem dX0_explore_18 : decode cX0_explore 18 = .ok (.pop, 1) := by decide +kernel
theorem dX0_explore_19 : decode cX0_explore 19 = .ok (.iconst 0, 1) := by decide +kernel
theorem dX0_explore_20 : decode cX0_explore 20 = .ok (.istore 4, 2) := by decide +kernel
theorem dX0_explore_22 : decode cX0_explore 22 = .ok (.iload 4, 2) := by decide +kernel
theorem dX0_explore_24 : decode cX0_explore 24 = .ok (.aload_n 0, 1) := by decide +kernel
theorem dX0_explore_25 : decode cX0_explore 25 = .ok (.getfield 40, 3) := by decide +kernel
theorem dX0_explore_28 : decode cX0_explore 28 = .ok (.if_icmp .ge 107, 3) := by decide +kernel
theorem dX0_explore_31 : decode cX0_explore 31 = .ok (.iload 4, 2) := by decide +kernel
theorem dX0_explore_33 : decode cX0_explore 33 = .ok (.sipush 225, 3) := by decide +kernel
theorem dX0_explore_36 : decode cX0_explore 36 = .ok (.if_icmp .ge 99, 3) := by decide +kernel
theorem dX0_explore_39 : decode cX0_explore 39 = .ok (.aload_n 0, 1) := by decide +kernel
theorem dX0_explore_40 : decode cX0_explore 40 = .ok (.getfield 28, 3) := by decide +kernel
theorem dX0_explore_43 : decode cX0_explore 43 = .ok (.iload 4, 2) := by decide +kernel
theorem dX0_explore_45 : decode cX0_explore 45 = .ok (.aload_n 1, 1) := by decide +kernel
theorem dX0_explore_46 : decode cX0_explore 46 = .ok (.aload_n 0, 1) := by decide +kernel
theorem dX0_explore_47 : decode cX0_explore 47 = .ok (.getfield 9, 3) := by decide +kernel
theorem dX0_explore_50 : decode cX0_explore 50 = .ok (.iload 4, 2) := by decide +kernel
theorem dX0_explore_52 : decode cX0_explore 52 = .ok (.iaload, 1) := by decide +kernel
theorem dX0_explore_53 : decode cX0_explore 53 = .ok (.invokevirtual 61, 3) := by decide +kernel
theorem dX0_explore_56 : decode cX0_explore 56 = .ok (.iastore, 1) := by decide +kernel
theorem dX0_explore_57 : decode cX0_explore 57 = .ok (.iconst 0, 1) := by decide +kernel
theorem dX0_explore_58 : decode cX0_explore 58 = .ok (.istore 5, 2) := by decide +kernel
theorem dX0_explore_60 : decode cX0_explore 60 = .ok (.iload 5, 2) := by decide +kernel
theorem dX0_explore_62 : decode cX0_explore 62 = .ok (.iload_n 2, 1) := by decide +kernel
theorem dX0_explore_63 : decode cX0_explore 63 = .ok (.if_icmp .ge 66, 3) := by decide +kernel
theorem dX0_explore_66 : decode cX0_explore 66 = .ok (.aload_n 1, 1) := by decide +kernel
theorem dX0_explore_67 : decode cX0_explore 67 = .ok (.aload_n 0, 1) := by decide +kernel
theorem dX0_explore_68 : decode cX0_explore 68 = .ok (.getfield 9, 3) := by decide +kernel
theorem dX0_explore_71 : decode cX0_explore 71 = .ok (.iload 4, 2) := by decide +kernel
theorem dX0_explore_73 : decode cX0_explore 73 = .ok (.iaload, 1) := by decide +kernel
theorem dX0_explore_74 : decode cX0_explore 74 = .ok (.iload 5, 2) := by decide +kernel
theorem dX0_explore_76 : decode cX0_explore 76 = .ok (.invokevirtual 65, 3) := by decide +kernel
theorem dX0_explore_79 : decode cX0_explore 79 = .ok (.istore 6, 2) := by decide +kernel
theorem dX0_explore_81 : decode cX0_explore 81 = .ok (.iload 6, 2) := by decide +kernel
theorem dX0_explore_83 : decode cX0_explore 83 = .ok (.iconst (-1), 1) := by decide +kernel
theorem dX0_explore_84 : decode cX0_explore 84 = .ok (.if_icmp .ne 7, 3) := by decide +kernel
theorem dX0_explore_87 : decode cX0_explore 87 = .ok (.iconst (-1), 1) := by decide +kernel
theorem dX0_explore_88 : decode cX0_explore 88 = .ok (.goto 10, 3) := by decide +kernel
theorem dX0_explore_91 : decode cX0_explore 91 = .ok (.aload_n 0, 1) := by decide +kernel
theorem dX0_explore_92 : decode cX0_explore 92 = .ok (.iload 6, 2) := by decide +kernel
theorem dX0_explore_94 : decode cX0_explore 94 = .ok (.iload_n 3, 1) := by decide +kernel
theorem dX0_explore_95 : decode cX0_explore 95 = .ok (.invokevirtual 57, 3) := by decide +kernel
theorem dX0_explore_98 : decode cX0_explore 98 = .ok (.istore 7, 2) := by decide +kernel
theorem dX0_explore_100 : decode cX0_explore 100 = .ok (.iload 7, 2) := by decide +kernel
theorem dX0_explore_102 : decode cX0_explore 102 = .ok (.bipush (-2), 2) := by decide +kernel
theorem dX0_explore_104 : decode cX0_explore 104 = .ok (.if_icmp .ne 5, 3) := by decide +kernel
theorem dX0_explore_107 : decode cX0_explore 107 = .ok (.iconst 0, 1) := by decide +kernel
theorem dX0_explore_108 : decode cX0_explore 108 = .ok (.ireturn, 1) := by decide +kernel
theorem dX0_explore_109 : decode cX0_explore 109 = .ok (.aload_n 0, 1) := by decide +kernel
theorem dX0_explore_110 : decode cX0_explore 110 = .ok (.getfield 25, 3) := by decide +kernel
theorem dX0_explore_113 : decode cX0_explore 113 = .ok (.iload 4, 2) := by decide +kernel
theorem dX0_explore_115 : decode cX0_explore 115 = .ok (.iconst 4, 1) := by decide +kernel
theorem dX0_explore_116 : decode cX0_explore 116 = .ok (.imul, 1) := by decide +kernel
theorem dX0_explore_117 : decode cX0_explore 117 = .ok (.iload 5, 2) := by decide +kernel
theorem dX0_explore_119 : decode cX0_explore 119 = .ok (.iadd, 1) := by decide +kernel
theorem dX0_explore_120 : decode cX0_explore 120 = .ok (.iload 7, 2) := by decide +kernel
theorem dX0_explore_122 : decode cX0_explore 122 = .ok (.iastore, 1) := by decide +kernel
theorem dX0_explore_123 : decode cX0_explore 123 = .ok (.iinc 5 1, 3) := by decide +kernel
theorem dX0_explore_126 : decode cX0_explore 126 = .ok (.goto (-66), 3) := by decide +kernel
theorem dX0_explore_129 : decode cX0_explore 129 = .ok (.iinc 4 1, 3) := by decide +kernel
theorem dX0_explore_132 : decode cX0_explore 132 = .ok (.goto (-110), 3) := by decide +kernel
theorem dX0_explore_135 : decode cX0_explore 135 = .ok (.iconst 1, 1) := by decide +kernel
theorem dX0_explore_136 : decode cX0_explore 136 = .ok (.ireturn, 1) := by decide +kernel
def f_Chart_explore_M_b98 (x4 : Int32) (x5 : Int32) (s0 : Int32) (kh : Int32 → MI → MJ → Prop) (k107 : MI → MJ → Prop) (I : MI) (J : MJ) : Prop :=
  (if s0 = (-2) then k107 I J else vp_in ((x4 * 4) + x5) 900 ∧ ∀ I122 : MI, I122 = sI I 7 (upd (I 7) ((x4 * 4) + x5).toNatClampNeg s0) → ∀ t123 : Int32, t123 = x5 + 1 → kh t123 I122 J)
def f_Chart_explore_M_L60 (x1 : Nat) (x2 : Int32) (x3 : Int32) (x4 : Int32) (k107 : MI → MJ → Prop) (k129 : MI → MJ → Prop) : Nat → Int32 → MI → MJ → Prop
  | 0, _, _, _ => False
  | nf60 + 1, x5, I, J =>
  (if x2 ≤ x5 then k129 I J else vp_in x4 225 ∧ f_Machine_nextKey x1 (I 3 x4.toNatClampNeg) x5 I J (fun r76 I76 J76 => (if r76 = (-1) then f_Chart_explore_M_b98 x4 x5 (-1) (f_Chart_explore_M_L60 x1 x2 x3 x4 k107 k129 nf60) k107 I76 J76 else f_Chart_nodeOf r76 x3 I76 J76 (fun r95 I95 J95 => f_Chart_explore_M_b98 x4 x5 r95 (f_Chart_explore_M_L60 x1 x2 x3 x4 k107 k129 nf60) k107 I95 J95))))
def f_Chart_explore_M_L22 (x1 : Nat) (x2 : Int32) (x3 : Int32) (k107 : MI → MJ → Prop) (k135 : MI → MJ → Prop) : Nat → Int32 → MI → MJ → Prop
  | 0, _, _, _ => False
  | nf22 + 1, x4, I, J =>
  (if (I 2 0) ≤ x4 then k135 I J else (if 225 ≤ x4 then k135 I J else vp_in x4 225 ∧ f_Machine_answerAt x1 (I 3 x4.toNatClampNeg) I J (fun r53 I53 J53 => vp_in x4 225 ∧ ∀ I56 : MI, I56 = sI I53 8 (upd (I53 8) x4.toNatClampNeg r53) → ∃ n, f_Chart_explore_M_L60 x1 x2 x3 x4 (fun (I : MI) (J : MJ) => k107 I J) (fun (I : MI) (J : MJ) => ∀ t129 : Int32, t129 = x4 + 1 → f_Chart_explore_M_L22 x1 x2 x3 k107 k135 nf22 t129 I J) n 0 I56 J53)))
def f_Chart_explore_M (x1 : Nat) (x2 : Int32) (x3 : Int32) (I : MI) (J : MJ) (Q : Int32 → MI → MJ → Prop) : Prop :=
  f_Chart_wipe I J (fun I1 J1 => ∀ I6 : MI, I6 = sI I1 2 (upd (I1 2) 1 x2) → f_Machine_firstKey x1 I6 J1 (fun r11 I11 J11 => f_Chart_nodeOf r11 x3 I11 J11 (fun r15 I15 J15 => ∃ n, f_Chart_explore_M_L22 x1 x2 x3 (fun (I : MI) (J : MJ) => Q 0 I J) (fun (I : MI) (J : MJ) => Q 1 I J) n 0 I15 J15)))
set_option maxRecDepth 100000 in
set_option maxHeartbeats 4000000 in
theorem w_Chart_explore_M_b98 {Γ : Ctx} {Q : Int32 → MI → MJ → Prop} {x1 : Nat} {x2 : Int32} {x3 : Int32} {x4 : Int32} {x5 : Int32} {s0 : Int32} {kh : Int32 → MI → MJ → Prop} {k107 : MI → MJ → Prop} (X : Cx Γ cX0_explore 8 RX0 2) (Y : Rt Γ (Pi Q) (Option.some Jvm.ClassFile.FieldType.boolean)) (hx1 : okM x1) (hkh : ∀ (x5 : Int32) (I : MI) (J : MJ), kh x5 I J → Wp Γ 8 60 [(0, .ref (ad Γ 2)), (1, .ref (ad Γ x1)), (2, .int x2), (3, .int x3), (4, .int x4), (5, .int x5)] [] I J) (hk107 : ∀ (I : MI) (J : MJ), k107 I J → Wp Γ 8 107 [] [] I J) {I : MI} {J : MJ} (h : f_Chart_explore_M_b98 x4 x5 s0 kh k107 I J) : Wp Γ 8 98 [(0, .ref (ad Γ 2)), (1, .ref (ad Γ x1)), (2, .int x2), (3, .int x3), (4, .int x4), (5, .int x5)] [.int s0] I J := by
  unfold f_Chart_explore_M_b98 at h
  refine wp_istore (L' := [(7, .int s0), (0, .ref (ad Γ 2)), (1, .ref (ad Γ x1)), (2, .int x2), (3, .int x3), (4, .int x4), (5, .int x5)]) X dX0_explore_98 (by decide) rfl ?_
  refine wp_iload X dX0_explore_100 0 rfl ?_
  refine wp_bipush X dX0_explore_102 bi_m2 ?_
  refine wp_icmp_ne (tgt := 109) X dX0_explore_104 (by decide) (fun hc => ?_) (fun hc => ?_)
  · have h := ite_f h hc
    refine wp_aload_n X dX0_explore_109 1 rfl ?_
    refine gf_X0_25 (o' := 7) X sh_2 rfl dX0_explore_110 ?_
    refine wp_iload X dX0_explore_113 5 rfl ?_
    refine wp_iconst X dX0_explore_115 ic_4 ?_
    refine wp_imul X dX0_explore_116 ?_
    refine wp_iload X dX0_explore_117 6 rfl ?_
    refine wp_iadd X dX0_explore_119 ?_
    refine wp_iload X dX0_explore_120 0 rfl ?_
    obtain ⟨hb122, h⟩ := h
    refine wp_iast X sh_7 hb122 dX0_explore_122 ?_
    refine wp_memI (fun I122 eI122 => ?_)
    have h := h I122 eI122
    obtain ⟨t123, et123⟩ : ∃ y : Int32, y = x5 + 1 := ⟨_, rfl⟩
    have h := h t123 et123
    refine wp_iinc (L' := [(5, .int t123), (7, .int s0), (0, .ref (ad Γ 2)), (1, .ref (ad Γ x1)), (2, .int x2), (3, .int x3), (4, .int x4)]) X dX0_explore_123 6 rfl (ii_1 et123) (by decide) rfl ?_
    refine wp_goto (tgt := 60) X dX0_explore_126 (by decide) ?_
    refine wp_sub X [2, 3, 4, 5, 6, 0] rfl ?_
    exact hkh _ _ _ h
  · have h := ite_t h hc
    refine wp_sub X [] rfl ?_
    exact hk107 _ _ h

set_option maxRecDepth 100000 in
set_option maxHeartbeats 4000000 in
theorem w_Chart_explore_M_L60 {Γ : Ctx} {Q : Int32 → MI → MJ → Prop} {x1 : Nat} {x2 : Int32} {x3 : Int32} {x4 : Int32} {k107 : MI → MJ → Prop} {k129 : MI → MJ → Prop} (X : Cx Γ cX0_explore 8 RX0 2) (Y : Rt Γ (Pi Q) (Option.some Jvm.ClassFile.FieldType.boolean)) (hx1 : okM x1) (hk107 : ∀ (I : MI) (J : MJ), k107 I J → Wp Γ 8 107 [] [] I J) (hk129 : ∀ (I : MI) (J : MJ), k129 I J → Wp Γ 8 129 [(0, .ref (ad Γ 2)), (1, .ref (ad Γ x1)), (2, .int x2), (3, .int x3), (4, .int x4)] [] I J) : ∀ (n : Nat) (x5 : Int32) (I : MI) (J : MJ), f_Chart_explore_M_L60 x1 x2 x3 x4 k107 k129 n x5 I J → Wp Γ 8 60 [(0, .ref (ad Γ 2)), (1, .ref (ad Γ x1)), (2, .int x2), (3, .int x3), (4, .int x4), (5, .int x5)] [] I J := by
  intro n
  induction n with
  | zero => intro x5 I J h; exact absurd h (by simp [f_Chart_explore_M_L60])
  | succ n ih =>
  intro x5 I J h
  unfold f_Chart_explore_M_L60 at h
  refine wp_iload X dX0_explore_60 5 rfl ?_
  refine wp_iload_n X dX0_explore_62 2 rfl ?_
  refine wp_icmp_ge (tgt := 129) X dX0_explore_63 (by decide) (fun hc => ?_) (fun hc => ?_)
  · have h := ite_t h hc
    refine wp_sub X [0, 1, 2, 3, 4] rfl ?_
    exact hk129 _ _ h
  · have h := ite_f h hc
    refine wp_aload_n X dX0_explore_66 1 rfl ?_
    refine wp_aload_n X dX0_explore_67 0 rfl ?_
    refine gf_X0_9 (o' := 3) X sh_2 rfl dX0_explore_68 ?_
    refine wp_iload X dX0_explore_71 4 rfl ?_
    obtain ⟨hb73, h⟩ := h
    refine wp_iald X sh_3 hb73 dX0_explore_73 ?_
    refine wp_iload X dX0_explore_74 5 rfl ?_
    refine cu_Machine_nextKey X dX0_explore_76 ml_X0_65 hx1 h (Nat.le_of_ble_eq_true rfl) (by decide) (fun r76 I76 J76 h => ?_)
    refine wp_istore (L' := [(6, .int r76), (0, .ref (ad Γ 2)), (1, .ref (ad Γ x1)), (2, .int x2), (3, .int x3), (4, .int x4), (5, .int x5)]) X dX0_explore_79 (by decide) rfl ?_
    refine wp_iload X dX0_explore_81 0 rfl ?_
    refine wp_iconst X dX0_explore_83 ic_m1 ?_
    refine wp_icmp_ne (tgt := 91) X dX0_explore_84 (by decide) (fun hc => ?_) (fun hc => ?_)
    · have h := ite_f h hc
      refine wp_aload_n X dX0_explore_91 1 rfl ?_
      refine wp_iload X dX0_explore_92 0 rfl ?_
      refine wp_iload_n X dX0_explore_94 4 rfl ?_
      refine cv_Chart_nodeOf X dX0_explore_95 ml_X0_57  h (Nat.le_of_ble_eq_true rfl) (by decide) (fun r95 I95 J95 h => ?_)
      refine wp_sub X [1, 2, 3, 4, 5, 6] rfl ?_
      exact w_Chart_explore_M_b98 X Y hx1 ih hk107 h
    · have h := ite_t h hc
      refine wp_iconst X dX0_explore_87 ic_m1 ?_
      refine wp_goto (tgt := 98) X dX0_explore_88 (by decide) ?_
      refine wp_sub X [1, 2, 3, 4, 5, 6] rfl ?_
      exact w_Chart_explore_M_b98 X Y hx1 ih hk107 h

set_option maxRecDepth 100000 in
set_option maxHeartbeats 4000000 in
theorem w_Chart_explore_M_L22 {Γ : Ctx} {Q : Int32 → MI → MJ → Prop} {x1 : Nat} {x2 : Int32} {x3 : Int32} {k107 : MI → MJ → Prop} {k135 : MI → MJ → Prop} (X : Cx Γ cX0_explore 8 RX0 2) (Y : Rt Γ (Pi Q) (Option.some Jvm.ClassFile.FieldType.boolean)) (hx1 : okM x1) (hk107 : ∀ (I : MI) (J : MJ), k107 I J → Wp Γ 8 107 [] [] I J) (hk135 : ∀ (I : MI) (J : MJ), k135 I J → Wp Γ 8 135 [] [] I J) : ∀ (n : Nat) (x4 : Int32) (I : MI) (J : MJ), f_Chart_explore_M_L22 x1 x2 x3 k107 k135 n x4 I J → Wp Γ 8 22 [(0, .ref (ad Γ 2)), (1, .ref (ad Γ x1)), (2, .int x2), (3, .int x3), (4, .int x4)] [] I J := by
  intro n
  induction n with
  | zero => intro x4 I J h; exact absurd h (by simp [f_Chart_explore_M_L22])
  | succ n ih =>
  intro x4 I J h
  unfold f_Chart_explore_M_L22 at h
  refine wp_iload X dX0_explore_22 4 rfl ?_
  refine wp_aload_n X dX0_explore_24 0 rfl ?_
  refine gf_X0_40 X sh_2 dX0_explore_25 ?_
  refine wp_icmp_ge (tgt := 135) X dX0_explore_28 (by decide) (fun hc => ?_) (fun hc => ?_)
  · have h := ite_t h hc
    refine wp_sub X [] rfl ?_
    exact hk135 _ _ h
  · have h := ite_f h hc
    refine wp_iload X dX0_explore_31 4 rfl ?_
    refine wp_sipush X dX0_explore_33 si_225 ?_
    refine wp_icmp_ge (tgt := 135) X dX0_explore_36 (by decide) (fun hc => ?_) (fun hc => ?_)
    · have h := ite_t h hc
      refine wp_sub X [] rfl ?_
      exact hk135 _ _ h
    · have h := ite_f h hc
      refine wp_aload_n X dX0_explore_39 0 rfl ?_
      refine gf_X0_28 (o' := 8) X sh_2 rfl dX0_explore_40 ?_
      refine wp_iload X dX0_explore_43 4 rfl ?_
      refine wp_aload_n X dX0_explore_45 1 rfl ?_
      refine wp_aload_n X dX0_explore_46 0 rfl ?_
      refine gf_X0_9 (o' := 3) X sh_2 rfl dX0_explore_47 ?_
      refine wp_iload X dX0_explore_50 4 rfl ?_
      obtain ⟨hb52, h⟩ := h
      refine wp_iald X sh_3 hb52 dX0_explore_52 ?_
      refine cu_Machine_answerAt X dX0_explore_53 ml_X0_61 hx1 h (Nat.le_of_ble_eq_true rfl) (by decide) (fun r53 I53 J53 h => ?_)
      obtain ⟨hb56, h⟩ := h
      refine wp_iast X sh_8 hb56 dX0_explore_56 ?_
      refine wp_memI (fun I56 eI56 => ?_)
      have h := h I56 eI56
      refine wp_iconst X dX0_explore_57 ic_0 ?_
      refine wp_istore (L' := [(5, .int 0), (0, .ref (ad Γ 2)), (1, .ref (ad Γ x1)), (2, .int x2), (3, .int x3), (4, .int x4)]) X dX0_explore_58 (by decide) rfl ?_
      obtain ⟨n, h⟩ := h
      refine wp_sub X [1, 2, 3, 4, 5, 0] rfl ?_
      refine w_Chart_explore_M_L60 X Y hx1 ?_ ?_ n _ _ _ h
      · intro I J h
        exact hk107 _ _ h
      · intro I J h
        obtain ⟨t129, et129⟩ : ∃ y : Int32, y = x4 + 1 := ⟨_, rfl⟩
        have h := h t129 et129
        refine wp_iinc (L' := [(4, .int t129), (0, .ref (ad Γ 2)), (1, .ref (ad Γ x1)), (2, .int x2), (3, .int x3)]) X dX0_explore_129 4 rfl (ii_1 et129) (by decide) rfl ?_
        refine wp_goto (tgt := 22) X dX0_explore_132 (by decide) ?_
        refine wp_sub X [1, 2, 3, 4, 0] rfl ?_
        exact ih _ _ _ h

set_option maxRecDepth 100000 in
set_option maxHeartbeats 4000000 in
theorem w_Chart_explore_M_b0 {Γ : Ctx} {Q : Int32 → MI → MJ → Prop} {x1 : Nat} {x2 : Int32} {x3 : Int32}  (X : Cx Γ cX0_explore 8 RX0 2) (Y : Rt Γ (Pi Q) (Option.some Jvm.ClassFile.FieldType.boolean)) (hx1 : okM x1)  {I : MI} {J : MJ} (h : f_Chart_explore_M x1 x2 x3 I J Q) : Wp Γ 8 0 [(0, .ref (ad Γ 2)), (1, .ref (ad Γ x1)), (2, .int x2), (3, .int x3)] [] I J := by
  unfold f_Chart_explore_M at h
  refine wp_aload_n X dX0_explore_0 0 rfl ?_
  refine cv_Chart_wipe X dX0_explore_1 ml_X0_45  h (Nat.le_of_ble_eq_true rfl) (by decide) (fun I1 J1 h => ?_)
  refine wp_aload_n X dX0_explore_4 0 rfl ?_
  refine wp_iload_n X dX0_explore_5 2 rfl ?_
  refine pf_X0_48 X sh_2 dX0_explore_6 (fun I6 eI6 => ?_)
  have h := h I6 eI6
  refine wp_aload_n X dX0_explore_9 0 rfl ?_
  refine wp_aload_n X dX0_explore_10 1 rfl ?_
  refine cu_Machine_firstKey X dX0_explore_11 ml_X0_51 hx1 h (Nat.le_of_ble_eq_true rfl) (by decide) (fun r11 I11 J11 h => ?_)
  refine wp_iload_n X dX0_explore_14 3 rfl ?_
  refine cv_Chart_nodeOf X dX0_explore_15 ml_X0_57  h (Nat.le_of_ble_eq_true rfl) (by decide) (fun r15 I15 J15 h => ?_)
  refine wp_pop X dX0_explore_18 rfl ?_
  refine wp_iconst X dX0_explore_19 ic_0 ?_
  refine wp_istore (L' := [(4, .int 0), (0, .ref (ad Γ 2)), (1, .ref (ad Γ x1)), (2, .int x2), (3, .int x3)]) X dX0_explore_20 (by decide) rfl ?_
  obtain ⟨n, h⟩ := h
  refine wp_sub X [1, 2, 3, 4, 0] rfl ?_
  refine w_Chart_explore_M_L22 X Y hx1 ?_ ?_ n _ _ _ h
  · intro I J h
    refine wp_iconst X dX0_explore_107 ic_0 ?_
    exact wp_zret X Y dX0_explore_108 (by decide) ⟨_, rfl, h⟩
  · intro I J h
    refine wp_iconst X dX0_explore_135 ic_1 ?_
    exact wp_zret X Y dX0_explore_136 (by decide) ⟨_, rfl, h⟩

theorem c_Chart_explore_M {l : Launch} {g : GE} (hg : Inj g) {I : MI} {J : MJ} {Q : Int32 → MI → MJ → Prop} {x1 : Nat} {x2 : Int32} {x3 : Int32} (hx1 : okM x1) (h : f_Chart_explore_M x1 x2 x3 I J Q) : Cm l g yX0_explore cX0_explore 8 (Option.some Jvm.ClassFile.FieldType.boolean) 2 [.ref (g.1 2), .ref (g.1 x1), .int x2, .int x3] I J (Pi Q) := by
  refine Cm.of (As := fun ad => [.ref (ad 2), .ref (ad x1), .int x2, .int x3]) hg pn_X0 (Nat.le_of_ble_eq_true rfl) ?_
  exact (fun Γ _ _ X Y => w_Chart_explore_M_b0 X Y hx1 h)
theorem cv_Chart_explore_M {Γ : Ctx} {cc : ByteArray} {nL d pc index : Nat} {own : String} {L : List (Nat × Value)} {rest : List Value} {I : MI} {J : MJ} {Q : Int32 → MI → MJ → Prop} {x1 : Nat} {x2 : Int32} {x3 : Int32} (X : Cx Γ cc nL own d) (hd : decode cc pc = .ok (.invokevirtual index, 3)) (hlink : Cond.methodLink own index yX0_explore ∈ TT) (hx1 : okM x1) (h : f_Chart_explore_M x1 x2 x3 I J Q) (hrest : (rest.map fun v => v.category).sum ≤ 8) (hdd : 2 + 1 ≤ d) (kk : ∀ (r : Int32) (I' : MI) (J' : MJ), Q r I' J' → Wp Γ nL (pc + 3) L (.int r :: rest) I' J') : Wp Γ nL pc L (.int x3 :: .int x2 :: .ref (ad Γ x1) :: .ref (ad Γ 2) :: rest) I J :=
  wp_callV (As := [.ref (ad Γ x1), .int x2, .int x3]) (rest := rest) (T := TX0) (N := 12) X hd hlink mv_X0_explore sh_2 (by decide) rfl (c_Chart_explore_M X.inj hx1 h) rfl rfl hrest hdd (fun v I' J' hv => by obtain ⟨r, rfl, hq⟩ := hv; exact kk r I' J' hq)
theorem dX1_isIn_0 : decode cX1_isIn 0 = .ok (.iload_n 1, 1) := by decide +kernel
theorem dX1_isIn_1 : decode cX1_isIn 1 = .ok (.iload_n 0, 1) := by decide +kernel
theorem dX1_isIn_2 : decode cX1_isIn 2 = .ok (.ishr, 1) := by decide +kernel
theorem dX1_isIn_3 : decode cX1_isIn 3 = .ok (.iconst 1, 1) := by decide +kernel
theorem dX1_isIn_4 : decode cX1_isIn 4 = .ok (.iand, 1) := by decide +kernel
theorem dX1_isIn_5 : decode cX1_isIn 5 = .ok (.iconst 1, 1) := by decide +kernel
theorem dX1_isIn_6 : decode cX1_isIn 6 = .ok (.if_icmp .ne 7, 3) := by decide +kernel
theorem dX1_isIn_9 : decode cX1_isIn 9 = .ok (.iconst 1, 1) := by decide +kernel
theorem dX1_isIn_10 : decode cX1_isIn 10 = .ok (.goto 4, 3) := by decide +kernel
theorem dX1_isIn_13 : decode cX1_isIn 13 = .ok (.iconst 0, 1) := by decide +kernel
theorem dX1_isIn_14 : decode cX1_isIn 14 = .ok (.ireturn, 1) := by decide +kernel
def f_Joining_isIn (x0 : Int32) (x1 : Int32) (I : MI) (J : MJ) (Q : Int32 → MI → MJ → Prop) : Prop :=
  (if ((x1 >>> (x0 &&& 31)) &&& 1) = 1 then Q 1 I J else Q 0 I J)
set_option maxRecDepth 100000 in
set_option maxHeartbeats 4000000 in
theorem w_Joining_isIn_b0 {Γ : Ctx} {Q : Int32 → MI → MJ → Prop} {x0 : Int32} {x1 : Int32}  (X : Cx Γ cX1_isIn 2 RX1 0) (Y : Rt Γ (Pi Q) (Option.some Jvm.ClassFile.FieldType.boolean))   {I : MI} {J : MJ} (h : f_Joining_isIn x0 x1 I J Q) : Wp Γ 2 0 [(0, .int x0), (1, .int x1)] [] I J := by
  unfold f_Joining_isIn at h
  refine wp_iload_n X dX1_isIn_0 1 rfl ?_
  refine wp_iload_n X dX1_isIn_1 0 rfl ?_
  refine wp_ishr X dX1_isIn_2 ?_
  refine wp_iconst X dX1_isIn_3 ic_1 ?_
  refine wp_iand X dX1_isIn_4 ?_
  refine wp_iconst X dX1_isIn_5 ic_1 ?_
  refine wp_icmp_ne (tgt := 13) X dX1_isIn_6 (by decide) (fun hc => ?_) (fun hc => ?_)
  · have h := ite_f h hc
    refine wp_iconst X dX1_isIn_13 ic_0 ?_
    exact wp_zret X Y dX1_isIn_14 (by decide) ⟨_, rfl, h⟩
  · have h := ite_t h hc
    refine wp_iconst X dX1_isIn_9 ic_1 ?_
    refine wp_goto (tgt := 14) X dX1_isIn_10 (by decide) ?_
    exact wp_zret X Y dX1_isIn_14 (by decide) ⟨_, rfl, h⟩

theorem c_Joining_isIn {l : Launch} {g : GE} (hg : Inj g) {I : MI} {J : MJ} {Q : Int32 → MI → MJ → Prop} {x0 : Int32} {x1 : Int32}  (h : f_Joining_isIn x0 x1 I J Q) : Cm l g yX1_isIn cX1_isIn 2 (Option.some Jvm.ClassFile.FieldType.boolean) 0 [.int x0, .int x1] I J (Pi Q) := by
  refine Cm.of (As := fun ad => [.int x0, .int x1]) hg pn_X1 (Nat.le_of_ble_eq_true rfl) ?_
  exact (fun Γ _ _ X Y => w_Joining_isIn_b0 X Y  h)
theorem cs_Joining_isIn {Γ : Ctx} {cc : ByteArray} {nL d pc index : Nat} {own : String} {L : List (Nat × Value)} {rest : List Value} {I : MI} {J : MJ} {Q : Int32 → MI → MJ → Prop} {x0 : Int32} {x1 : Int32} (X : Cx Γ cc nL own d) (hd : decode cc pc = .ok (.invokestatic index, 3)) (hlink : Cond.methodLink own index yX1_isIn ∈ TT)  (h : f_Joining_isIn x0 x1 I J Q) (hrest : (rest.map fun v => v.category).sum ≤ 8) (hdd : 0 + 1 ≤ d) (kk : ∀ (r : Int32) (I' : MI) (J' : MJ), Q r I' J' → Wp Γ nL (pc + 3) L (.int r :: rest) I' J') : Wp Γ nL pc L (.int x1 :: .int x0 :: rest) I J :=
  wp_callS (As := [.int x0, .int x1]) (rest := rest) X hd hlink mv_X1_isIn (c_Joining_isIn X.inj  h) rfl rfl hrest hdd (fun v I' J' hv => by obtain ⟨r, rfl, hq⟩ := hv; exact kk r I' J' hq)
theorem dX1_paired_0 : decode cX1_paired 0 = .ok (.iload_n 0, 1) := by decide +kernel
theorem dX1_paired_1 : decode cX1_paired 1 = .ok (.bipush 14, 2) := by decide +kernel
theorem dX1_paired_3 : decode cX1_paired 3 = .ok (.ishl, 1) := by decide +kernel
theorem dX1_paired_4 : decode cX1_paired 4 = .ok (.iload_n 1, 1) := by decide +kernel
theorem dX1_paired_5 : decode cX1_paired 5 = .ok (.ior, 1) := by decide +kernel
theorem dX1_paired_6 : decode cX1_paired 6 = .ok (.ireturn, 1) := by decide +kernel
def f_Joining_paired (x0 : Int32) (x1 : Int32) (I : MI) (J : MJ) (Q : Int32 → MI → MJ → Prop) : Prop :=
  Q ((x0 <<< (14 &&& 31)) ||| x1) I J
set_option maxRecDepth 100000 in
set_option maxHeartbeats 4000000 in
theorem w_Joining_paired_b0 {Γ : Ctx} {Q : Int32 → MI → MJ → Prop} {x0 : Int32} {x1 : Int32}  (X : Cx Γ cX1_paired 2 RX1 0) (Y : Rt Γ (Pi Q) (Option.some Jvm.ClassFile.FieldType.int))   {I : MI} {J : MJ} (h : f_Joining_paired x0 x1 I J Q) : Wp Γ 2 0 [(0, .int x0), (1, .int x1)] [] I J := by
  unfold f_Joining_paired at h
  refine wp_iload_n X dX1_paired_0 0 rfl ?_
  refine wp_bipush X dX1_paired_1 bi_14 ?_
  refine wp_ishl X dX1_paired_3 ?_
  refine wp_iload_n X dX1_paired_4 1 rfl ?_
  refine wp_ior X dX1_paired_5 ?_
  exact wp_iret X Y dX1_paired_6 ⟨_, rfl, h⟩

theorem c_Joining_paired {l : Launch} {g : GE} (hg : Inj g) {I : MI} {J : MJ} {Q : Int32 → MI → MJ → Prop} {x0 : Int32} {x1 : Int32}  (h : f_Joining_paired x0 x1 I J Q) : Cm l g yX1_paired cX1_paired 2 (Option.some Jvm.ClassFile.FieldType.int) 0 [.int x0, .int x1] I J (Pi Q) := by
  refine Cm.of (As := fun ad => [.int x0, .int x1]) hg pn_X1 (Nat.le_of_ble_eq_true rfl) ?_
  exact (fun Γ _ _ X Y => w_Joining_paired_b0 X Y  h)
theorem cs_Joining_paired {Γ : Ctx} {cc : ByteArray} {nL d pc index : Nat} {own : String} {L : List (Nat × Value)} {rest : List Value} {I : MI} {J : MJ} {Q : Int32 → MI → MJ → Prop} {x0 : Int32} {x1 : Int32} (X : Cx Γ cc nL own d) (hd : decode cc pc = .ok (.invokestatic index, 3)) (hlink : Cond.methodLink own index yX1_paired ∈ TT)  (h : f_Joining_paired x0 x1 I J Q) (hrest : (rest.map fun v => v.category).sum ≤ 8) (hdd : 0 + 1 ≤ d) (kk : ∀ (r : Int32) (I' : MI) (J' : MJ), Q r I' J' → Wp Γ nL (pc + 3) L (.int r :: rest) I' J') : Wp Γ nL pc L (.int x1 :: .int x0 :: rest) I J :=
  wp_callS (As := [.int x0, .int x1]) (rest := rest) X hd hlink mv_X1_paired (c_Joining_paired X.inj  h) rfl rfl hrest hdd (fun v I' J' hv => by obtain ⟨r, rfl, hq⟩ := hv; exact kk r I' J' hq)
theorem dX1_withSecond_0 : decode cX1_withSecond 0 = .ok (.iload_n 1, 1) := by decide +kernel
theorem dX1_withSecond_1 : decode cX1_withSecond 1 = .ok (.iload_n 1, 1) := by decide +kernel
theorem dX1_withSecond_2 : decode cX1_withSecond 2 = .ok (.aload_n 0, 1) := by decide +kernel
theorem dX1_withSecond_3 : decode cX1_withSecond 3 = .ok (.getfield 29, 3) := by decide +kernel
theorem dX1_withSecond_6 : decode cX1_withSecond 6 = .ok (.invokestatic 75, 3) := by decide +kernel
theorem dX1_withSecond_9 : decode cX1_withSecond 9 = .ok (.ifCond .eq 9, 3) := by decide +kernel
theorem dX1_withSecond_12 : decode cX1_withSecond 12 = .ok (.iload_n 2, 1) := by decide +kernel
theorem dX1_withSecond_13 : decode cX1_withSecond 13 = .ok (.iconst 1, 1) := by decide +kernel
theorem dX1_withSecond_14 : decode cX1_withSecond 14 = .ok (.ior, 1) := by decide +kernel
theorem dX1_withSecond_15 : decode cX1_withSecond 15 = .ok (.goto 4, 3) := by decide +kernel
theorem dX1_withSecond_18 : decode cX1_withSecond 18 = .ok (.iload_n 2, 1) := by decide +kernel
theorem dX1_withSecond_19 : decode cX1_withSecond 19 = .ok (.invokestatic 54, 3) := by decide +kernel
theorem dX1_withSecond_22 : decode cX1_withSecond 22 = .ok (.ireturn, 1) := by decide +kernel
def f_Joining_withSecond_b19 (s0 : Int32) (s1 : Int32) (Q : Int32 → MI → MJ → Prop) (I : MI) (J : MJ) : Prop :=
  f_Joining_paired s0 s1 I J (fun r19 I19 J19 => Q r19 I19 J19)
def f_Joining_withSecond (x1 : Int32) (x2 : Int32) (I : MI) (J : MJ) (Q : Int32 → MI → MJ → Prop) : Prop :=
  f_Joining_isIn x1 (I 12 3) I J (fun r6 I6 J6 => (if r6 = 0 then f_Joining_withSecond_b19 x1 x2 Q I6 J6 else f_Joining_withSecond_b19 x1 (x2 ||| 1) Q I6 J6))
set_option maxRecDepth 100000 in
set_option maxHeartbeats 4000000 in
theorem w_Joining_withSecond_b19 {Γ : Ctx} {Q : Int32 → MI → MJ → Prop} {s0 : Int32} {s1 : Int32}  (X : Cx Γ cX1_withSecond 3 RX1 1) (Y : Rt Γ (Pi Q) (Option.some Jvm.ClassFile.FieldType.int))   {I : MI} {J : MJ} (h : f_Joining_withSecond_b19 s0 s1 Q I J) : Wp Γ 3 19 [] [.int s1, .int s0] I J := by
  unfold f_Joining_withSecond_b19 at h
  refine cs_Joining_paired X dX1_withSecond_19 ml_X1_54  h (Nat.le_of_ble_eq_true rfl) (by decide) (fun r19 I19 J19 h => ?_)
  exact wp_iret X Y dX1_withSecond_22 ⟨_, rfl, h⟩

set_option maxRecDepth 100000 in
set_option maxHeartbeats 4000000 in
theorem w_Joining_withSecond_b0 {Γ : Ctx} {Q : Int32 → MI → MJ → Prop} {x1 : Int32} {x2 : Int32}  (X : Cx Γ cX1_withSecond 3 RX1 1) (Y : Rt Γ (Pi Q) (Option.some Jvm.ClassFile.FieldType.int))   {I : MI} {J : MJ} (h : f_Joining_withSecond x1 x2 I J Q) : Wp Γ 3 0 [(0, .ref (ad Γ 12)), (1, .int x1), (2, .int x2)] [] I J := by
  unfold f_Joining_withSecond at h
  refine wp_iload_n X dX1_withSecond_0 1 rfl ?_
  refine wp_iload_n X dX1_withSecond_1 1 rfl ?_
  refine wp_aload_n X dX1_withSecond_2 0 rfl ?_
  refine gf_X1_29 X sh_12 dX1_withSecond_3 ?_
  refine cs_Joining_isIn X dX1_withSecond_6 ml_X1_75  h (Nat.le_of_ble_eq_true rfl) (by decide) (fun r6 I6 J6 h => ?_)
  refine wp_if_eq (tgt := 18) X dX1_withSecond_9 (by decide) (fun hc => ?_) (fun hc => ?_)
  · have h := ite_t h hc
    refine wp_iload_n X dX1_withSecond_18 2 rfl ?_
    refine wp_sub X [] rfl ?_
    exact w_Joining_withSecond_b19 X Y  h
  · have h := ite_f h hc
    refine wp_iload_n X dX1_withSecond_12 2 rfl ?_
    refine wp_iconst X dX1_withSecond_13 ic_1 ?_
    refine wp_ior X dX1_withSecond_14 ?_
    refine wp_goto (tgt := 19) X dX1_withSecond_15 (by decide) ?_
    refine wp_sub X [] rfl ?_
    exact w_Joining_withSecond_b19 X Y  h

theorem c_Joining_withSecond {l : Launch} {g : GE} (hg : Inj g) {I : MI} {J : MJ} {Q : Int32 → MI → MJ → Prop} {x1 : Int32} {x2 : Int32}  (h : f_Joining_withSecond x1 x2 I J Q) : Cm l g yX1_withSecond cX1_withSecond 3 (Option.some Jvm.ClassFile.FieldType.int) 1 [.ref (g.1 12), .int x1, .int x2] I J (Pi Q) := by
  refine Cm.of (As := fun ad => [.ref (ad 12), .int x1, .int x2]) hg pn_X1 (Nat.le_of_ble_eq_true rfl) ?_
  exact (fun Γ _ _ X Y => w_Joining_withSecond_b0 X Y  h)
theorem cv_Joining_withSecond {Γ : Ctx} {cc : ByteArray} {nL d pc index : Nat} {own : String} {L : List (Nat × Value)} {rest : List Value} {I : MI} {J : MJ} {Q : Int32 → MI → MJ → Prop} {x1 : Int32} {x2 : Int32} (X : Cx Γ cc nL own d) (hd : decode cc pc = .ok (.invokevirtual index, 3)) (hlink : Cond.methodLink own index yX1_withSecond ∈ TT)  (h : f_Joining_withSecond x1 x2 I J Q) (hrest : (rest.map fun v => v.category).sum ≤ 8) (hdd : 1 + 1 ≤ d) (kk : ∀ (r : Int32) (I' : MI) (J' : MJ), Q r I' J' → Wp Γ nL (pc + 3) L (.int r :: rest) I' J') : Wp Γ nL pc L (.int x2 :: .int x1 :: .ref (ad Γ 12) :: rest) I J :=
  wp_callV (As := [.int x1, .int x2]) (rest := rest) (T := TX1) (N := 5) X hd hlink mv_X1_withSecond sh_12 (by decide) rfl (c_Joining_withSecond X.inj  h) rfl rfl hrest hdd (fun v I' J' hv => by obtain ⟨r, rfl, hq⟩ := hv; exact kk r I' J' hq)
theorem dX1_firstKey_0 : decode cX1_firstKey 0 = .ok (.aload_n 0, 1) := by decide +kernel
theorem dX1_firstKey_1 : decode cX1_firstKey 1 = .ok (.getfield 21, 3) := by decide +kernel
theorem dX1_firstKey_4 : decode cX1_firstKey 4 = .ok (.tableswitch 44 3 5 #[28, 35, 40], 28) := by decide +kernel
theorem dX1_firstKey_32 : decode cX1_firstKey 32 = .ok (.aload_n 0, 1) := by decide +kernel
theorem dX1_firstKey_33 : decode cX1_firstKey 33 = .ok (.iconst 0, 1) := by decide +kernel
theorem dX1_firstKey_34 : decode cX1_firstKey 34 = .ok (.iconst 0, 1) := by decide +kernel
theorem dX1_firstKey_35 : decode cX1_firstKey 35 = .ok (.invokevirtual 51, 3) := by decide +kernel
theorem dX1_firstKey_38 : decode cX1_firstKey 38 = .ok (.ireturn, 1) := by decide +kernel
theorem dX1_firstKey_39 : decode cX1_firstKey 39 = .ok (.aload_n 0, 1) := by decide +kernel
theorem dX1_firstKey_40 : decode cX1_firstKey 40 = .ok (.getfield 29, 3) := by decide +kernel
theorem dX1_firstKey_43 : decode cX1_firstKey 43 = .ok (.ireturn, 1) := by decide +kernel
theorem dX1_firstKey_44 : decode cX1_firstKey 44 = .ok (.sipush 16384, 3) := by decide +kernel
theorem dX1_firstKey_47 : decode cX1_firstKey 47 = .ok (.ireturn, 1) := by decide +kernel
theorem dX1_firstKey_48 : decode cX1_firstKey 48 = .ok (.iconst 0, 1) := by decide +kernel
theorem dX1_firstKey_49 : decode cX1_firstKey 49 = .ok (.iconst 0, 1) := by decide +kernel
theorem dX1_firstKey_50 : decode cX1_firstKey 50 = .ok (.invokestatic 54, 3) := by decide +kernel
theorem dX1_firstKey_53 : decode cX1_firstKey 53 = .ok (.ireturn, 1) := by decide +kernel
def f_Joining_firstKey (I : MI) (J : MJ) (Q : Int32 → MI → MJ → Prop) : Prop :=
  (if (I 12 2) = 3 then f_Joining_withSecond (0 : Int32) (0 : Int32) I J (fun r35 I35 J35 => Q r35 I35 J35) else (if (I 12 2) = 4 then Q (I 12 3) I J else (if (I 12 2) = 5 then Q 16384 I J else f_Joining_paired (0 : Int32) (0 : Int32) I J (fun r50 I50 J50 => Q r50 I50 J50))))
set_option maxRecDepth 100000 in
set_option maxHeartbeats 4000000 in
theorem w_Joining_firstKey_b0 {Γ : Ctx} {Q : Int32 → MI → MJ → Prop}   (X : Cx Γ cX1_firstKey 1 RX1 2) (Y : Rt Γ (Pi Q) (Option.some Jvm.ClassFile.FieldType.int))   {I : MI} {J : MJ} (h : f_Joining_firstKey  I J Q) : Wp Γ 1 0 [(0, .ref (ad Γ 12))] [] I J := by
  unfold f_Joining_firstKey at h
  refine wp_aload_n X dX1_firstKey_0 0 rfl ?_
  refine gf_X1_21 X sh_12 dX1_firstKey_1 ?_
  by_cases hs3 : (I 12 2) = 3
  · have h := ite_t h hs3
    refine wp_tab (tgt := 32) (y := 3) X dX1_firstKey_4 hs3 (by decide) (by decide) rfl (by decide) ?_
    refine wp_aload_n X dX1_firstKey_32 0 rfl ?_
    refine wp_iconst X dX1_firstKey_33 ic_0 ?_
    refine wp_iconst X dX1_firstKey_34 ic_0 ?_
    refine cv_Joining_withSecond X dX1_firstKey_35 ml_X1_51  h (Nat.le_of_ble_eq_true rfl) (by decide) (fun r35 I35 J35 h => ?_)
    exact wp_iret X Y dX1_firstKey_38 ⟨_, rfl, h⟩
  have h := ite_f h hs3
  by_cases hs4 : (I 12 2) = 4
  · have h := ite_t h hs4
    refine wp_tab (tgt := 39) (y := 4) X dX1_firstKey_4 hs4 (by decide) (by decide) rfl (by decide) ?_
    refine wp_aload_n X dX1_firstKey_39 0 rfl ?_
    refine gf_X1_29 X sh_12 dX1_firstKey_40 ?_
    exact wp_iret X Y dX1_firstKey_43 ⟨_, rfl, h⟩
  have h := ite_f h hs4
  by_cases hs5 : (I 12 2) = 5
  · have h := ite_t h hs5
    refine wp_tab (tgt := 44) (y := 5) X dX1_firstKey_4 hs5 (by decide) (by decide) rfl (by decide) ?_
    refine wp_sipush X dX1_firstKey_44 si_16384 ?_
    exact wp_iret X Y dX1_firstKey_47 ⟨_, rfl, h⟩
  have h := ite_f h hs5
  have nt3 := lv_neT hs3 (a := 3) (by decide)
  have nt4 := lv_neT hs4 (a := 4) (by decide)
  have nt5 := lv_neT hs5 (a := 5) (by decide)
  refine wp_tableOut (tgt := 48) X dX1_firstKey_4 (by omega) (by decide) ?_
  refine wp_iconst X dX1_firstKey_48 ic_0 ?_
  refine wp_iconst X dX1_firstKey_49 ic_0 ?_
  refine cs_Joining_paired X dX1_firstKey_50 ml_X1_54  h (Nat.le_of_ble_eq_true rfl) (by decide) (fun r50 I50 J50 h => ?_)
  exact wp_iret X Y dX1_firstKey_53 ⟨_, rfl, h⟩

theorem c_Joining_firstKey {l : Launch} {g : GE} (hg : Inj g) {I : MI} {J : MJ} {Q : Int32 → MI → MJ → Prop}   (h : f_Joining_firstKey  I J Q) : Cm l g yX1_firstKey cX1_firstKey 1 (Option.some Jvm.ClassFile.FieldType.int) 2 [.ref (g.1 12)] I J (Pi Q) := by
  refine Cm.of (As := fun ad => [.ref (ad 12)]) hg pn_X1 (Nat.le_of_ble_eq_true rfl) ?_
  exact (fun Γ _ _ X Y => w_Joining_firstKey_b0 X Y  h)
theorem cu_Joining_firstKey {Γ : Ctx} {cc : ByteArray} {nL d pc index : Nat} {own : String} {L : List (Nat × Value)} {rest : List Value} {I : MI} {J : MJ} {Q : Int32 → MI → MJ → Prop}  (X : Cx Γ cc nL own d) (hd : decode cc pc = .ok (.invokevirtual index, 3)) (hlink : Cond.methodLink own index ⟨RX8, "firstKey", "()I"⟩ ∈ TT)  (h : f_Joining_firstKey  I J Q) (hrest : (rest.map fun v => v.category).sum ≤ 8) (hdd : 2 + 1 ≤ d) (kk : ∀ (r : Int32) (I' : MI) (J' : MJ), Q r I' J' → Wp Γ nL (pc + 3) L (.int r :: rest) I' J') : Wp Γ nL pc L (.ref (ad Γ 12) :: rest) I J :=
  wp_callU (x := ⟨RX8, "firstKey", "()I"⟩) (n := 0) (As := []) (rest := rest) (T := TX1) (N := 5) X hd hlink rfl (fun g U h => h.2.1) (TT_at 716 (by decide +kernel) rfl) (TT_at 717 (by decide +kernel) rfl) (TT_at 718 (by decide +kernel) rfl) (TT_at 111 (by decide +kernel) rfl) (TT_at 719 (by decide +kernel) rfl) (by decide +kernel) (by decide) sh_12 (by decide) rfl (c_Joining_firstKey X.inj  h) rfl rfl hrest hdd (fun v I' J' hv => by obtain ⟨r, rfl, hq⟩ := hv; exact kk r I' J' hq)
theorem dX1_belongs_0 : decode cX1_belongs 0 = .ok (.aload_n 0, 1) := by decide +kernel
theorem dX1_belongs_1 : decode cX1_belongs 1 = .ok (.getfield 21, 3) := by decide +kernel
theorem dX1_belongs_4 : decode cX1_belongs 4 = .ok (.tableswitch 130 0 4 #[36, 64, 92, 109, 124], 36) := by decide +kernel
theorem dX1_belongs_40 : decode cX1_belongs 40 = .ok (.iload_n 2, 1) := by decide +kernel
theorem dX1_belongs_41 : decode cX1_belongs 41 = .ok (.aload_n 0, 1) := by decide +kernel
theorem dX1_belongs_42 : decode cX1_belongs 42 = .ok (.getfield 29, 3) := by decide +kernel
theorem dX1_belongs_45 : decode cX1_belongs 45 = .ok (.invokestatic 75, 3) := by decide +kernel
theorem dX1_belongs_48 : decode cX1_belongs 48 = .ok (.ifCond .eq 18, 3) := by decide +kernel
theorem dX1_belongs_51 : decode cX1_belongs 51 = .ok (.iload_n 3, 1) := by decide +kernel
theorem dX1_belongs_52 : decode cX1_belongs 52 = .ok (.aload_n 0, 1) := by decide +kernel
theorem dX1_belongs_53 : decode cX1_belongs 53 = .ok (.getfield 32, 3) := by decide +kernel
theorem dX1_belongs_56 : decode cX1_belongs 56 = .ok (.invokestatic 75, 3) := by decide +kernel
theorem dX1_belongs_59 : decode cX1_belongs 59 = .ok (.ifCond .eq 7, 3) := by decide +kernel
theorem dX1_belongs_62 : decode cX1_belongs 62 = .ok (.iconst 1, 1) := by decide +kernel
theorem dX1_belongs_63 : decode cX1_belongs 63 = .ok (.goto 4, 3) := by decide +kernel
theorem dX1_belongs_66 : decode cX1_belongs 66 = .ok (.iconst 0, 1) := by decide +kernel
theorem dX1_belongs_67 : decode cX1_belongs 67 = .ok (.ireturn, 1) := by decide +kernel
theorem dX1_belongs_68 : decode cX1_belongs 68 = .ok (.iload_n 2, 1) := by decide +kernel
theorem dX1_belongs_69 : decode cX1_belongs 69 = .ok (.aload_n 0, 1) := by decide +kernel
theorem dX1_belongs_70 : decode cX1_belongs 70 = .ok (.getfield 29, 3) := by decide +kernel
theorem dX1_belongs_73 : decode cX1_belongs 73 = .ok (.invokestatic 75, 3) := by decide +kernel
theorem dX1_belongs_76 : decode cX1_belongs 76 = .ok (.ifCond .ne 14, 3) := by decide +kernel
theorem dX1_belongs_79 : decode cX1_belongs 79 = .ok (.iload_n 3, 1) := by decide +kernel
theorem dX1_belongs_80 : decode cX1_belongs 80 = .ok (.aload_n 0, 1) := by decide +kernel
theorem dX1_belongs_81 : decode cX1_belongs 81 = .ok (.getfield 32, 3) := by decide +kernel
theorem dX1_belongs_84 : decode cX1_belongs 84 = .ok (.invokestatic 75, 3) := by decide +kernel
theorem dX1_belongs_87 : decode cX1_belongs 87 = .ok (.ifCond .eq 7, 3) := by decide +kernel
theorem dX1_belongs_90 : decode cX1_belongs 90 = .ok (.iconst 1, 1) := by decide +kernel
theorem dX1_belongs_91 : decode cX1_belongs 91 = .ok (.goto 4, 3) := by decide +kernel
theorem dX1_belongs_94 : decode cX1_belongs 94 = .ok (.iconst 0, 1) := by decide +kernel
theorem dX1_belongs_95 : decode cX1_belongs 95 = .ok (.ireturn, 1) := by decide +kernel
theorem dX1_belongs_96 : decode cX1_belongs 96 = .ok (.iload_n 2, 1) := by decide +kernel
theorem dX1_belongs_97 : decode cX1_belongs 97 = .ok (.aload_n 0, 1) := by decide +kernel
theorem dX1_belongs_98 : decode cX1_belongs 98 = .ok (.getfield 29, 3) := by decide +kernel
theorem dX1_belongs_101 : decode cX1_belongs 101 = .ok (.invokestatic 75, 3) := by decide +kernel
theorem dX1_belongs_104 : decode cX1_belongs 104 = .ok (.ifCond .ne 7, 3) := by decide +kernel
theorem dX1_belongs_107 : decode cX1_belongs 107 = .ok (.iconst 1, 1) := by decide +kernel
theorem dX1_belongs_108 : decode cX1_belongs 108 = .ok (.goto 4, 3) := by decide +kernel
theorem dX1_belongs_111 : decode cX1_belongs 111 = .ok (.iconst 0, 1) := by decide +kernel
theorem dX1_belongs_112 : decode cX1_belongs 112 = .ok (.ireturn, 1) := by decide +kernel
theorem dX1_belongs_113 : decode cX1_belongs 113 = .ok (.iload_n 3, 1) := by decide +kernel
theorem dX1_belongs_114 : decode cX1_belongs 114 = .ok (.aload_n 0, 1) := by decide +kernel
theorem dX1_belongs_115 : decode cX1_belongs 115 = .ok (.getfield 32, 3) := by decide +kernel
theorem dX1_belongs_118 : decode cX1_belongs 118 = .ok (.iand, 1) := by decide +kernel
theorem dX1_belongs_119 : decode cX1_belongs 119 = .ok (.ifCond .eq 7, 3) := by decide +kernel
theorem dX1_belongs_122 : decode cX1_belongs 122 = .ok (.iconst 1, 1) := by decide +kernel
theorem dX1_belongs_123 : decode cX1_belongs 123 = .ok (.goto 4, 3) := by decide +kernel
theorem dX1_belongs_126 : decode cX1_belongs 126 = .ok (.iconst 0, 1) := by decide +kernel
theorem dX1_belongs_127 : decode cX1_belongs 127 = .ok (.ireturn, 1) := by decide +kernel
theorem dX1_belongs_128 : decode cX1_belongs 128 = .ok (.iconst 0, 1) := by decide +kernel
theorem dX1_belongs_129 : decode cX1_belongs 129 = .ok (.iload_n 3, 1) := by decide +kernel
theorem dX1_belongs_130 : decode cX1_belongs 130 = .ok (.invokestatic 75, 3) := by decide +kernel
theorem dX1_belongs_133 : decode cX1_belongs 133 = .ok (.ireturn, 1) := by decide +kernel
theorem dX1_belongs_134 : decode cX1_belongs 134 = .ok (.iload_n 1, 1) := by decide +kernel
theorem dX1_belongs_135 : decode cX1_belongs 135 = .ok (.sipush 16384, 3) := by decide +kernel
theorem dX1_belongs_138 : decode cX1_belongs 138 = .ok (.if_icmp .eq 12, 3) := by decide +kernel
theorem dX1_belongs_141 : decode cX1_belongs 141 = .ok (.iload_n 3, 1) := by decide +kernel
theorem dX1_belongs_142 : decode cX1_belongs 142 = .ok (.aload_n 0, 1) := by decide +kernel
theorem dX1_belongs_143 : decode cX1_belongs 143 = .ok (.getfield 29, 3) := by decide +kernel
theorem dX1_belongs_146 : decode cX1_belongs 146 = .ok (.iand, 1) := by decide +kernel
theorem dX1_belongs_147 : decode cX1_belongs 147 = .ok (.ifCond .eq 7, 3) := by decide +kernel
theorem dX1_belongs_150 : decode cX1_belongs 150 = .ok (.iconst 1, 1) := by decide +kernel
theorem dX1_belongs_151 : decode cX1_belongs 151 = .ok (.goto 4, 3) := by decide +kernel
theorem dX1_belongs_154 : decode cX1_belongs 154 = .ok (.iconst 0, 1) := by decide +kernel
theorem dX1_belongs_155 : decode cX1_belongs 155 = .ok (.ireturn, 1) := by decide +kernel
def f_Joining_belongs_b150  (Q : Int32 → MI → MJ → Prop) (I : MI) (J : MJ) : Prop :=
  Q 1 I J
def f_Joining_belongs_b90  (Q : Int32 → MI → MJ → Prop) (I : MI) (J : MJ) : Prop :=
  Q 1 I J
def f_Joining_belongs (x1 : Int32) (x2 : Int32) (x3 : Int32) (I : MI) (J : MJ) (Q : Int32 → MI → MJ → Prop) : Prop :=
  (if (I 12 2) = 0 then f_Joining_isIn x2 (I 12 3) I J (fun r45 I45 J45 => (if r45 = 0 then Q 0 I45 J45 else f_Joining_isIn x3 (I45 12 4) I45 J45 (fun r56 I56 J56 => (if r56 = 0 then Q 0 I56 J56 else Q 1 I56 J56)))) else (if (I 12 2) = 1 then f_Joining_isIn x2 (I 12 3) I J (fun r73 I73 J73 => (if r73 = 0 then f_Joining_isIn x3 (I73 12 4) I73 J73 (fun r84 I84 J84 => (if r84 = 0 then Q 0 I84 J84 else f_Joining_belongs_b90 Q I84 J84)) else f_Joining_belongs_b90 Q I73 J73)) else (if (I 12 2) = 2 then f_Joining_isIn x2 (I 12 3) I J (fun r101 I101 J101 => (if r101 = 0 then Q 1 I101 J101 else Q 0 I101 J101)) else (if (I 12 2) = 3 then (if (x3 &&& (I 12 4)) = 0 then Q 0 I J else Q 1 I J) else (if (I 12 2) = 4 then f_Joining_isIn (0 : Int32) x3 I J (fun r130 I130 J130 => (r130 = 0 ∨ r130 = 1) ∧ Q r130 I130 J130) else (if x1 = 16384 then f_Joining_belongs_b150 Q I J else (if (x3 &&& (I 12 3)) = 0 then Q 0 I J else f_Joining_belongs_b150 Q I J)))))))
set_option maxRecDepth 100000 in
set_option maxHeartbeats 4000000 in
theorem w_Joining_belongs_b150 {Γ : Ctx} {Q : Int32 → MI → MJ → Prop}   (X : Cx Γ cX1_belongs 4 RX1 1) (Y : Rt Γ (Pi Q) (Option.some Jvm.ClassFile.FieldType.boolean))   {I : MI} {J : MJ} (h : f_Joining_belongs_b150 Q I J) : Wp Γ 4 150 [] [] I J := by
  unfold f_Joining_belongs_b150 at h
  refine wp_iconst X dX1_belongs_150 ic_1 ?_
  refine wp_goto (tgt := 155) X dX1_belongs_151 (by decide) ?_
  exact wp_zret X Y dX1_belongs_155 (by decide) ⟨_, rfl, h⟩

set_option maxRecDepth 100000 in
set_option maxHeartbeats 4000000 in
theorem w_Joining_belongs_b90 {Γ : Ctx} {Q : Int32 → MI → MJ → Prop}   (X : Cx Γ cX1_belongs 4 RX1 1) (Y : Rt Γ (Pi Q) (Option.some Jvm.ClassFile.FieldType.boolean))   {I : MI} {J : MJ} (h : f_Joining_belongs_b90 Q I J) : Wp Γ 4 90 [] [] I J := by
  unfold f_Joining_belongs_b90 at h
  refine wp_iconst X dX1_belongs_90 ic_1 ?_
  refine wp_goto (tgt := 95) X dX1_belongs_91 (by decide) ?_
  exact wp_zret X Y dX1_belongs_95 (by decide) ⟨_, rfl, h⟩

set_option maxRecDepth 100000 in
set_option maxHeartbeats 4000000 in
theorem w_Joining_belongs_b0 {Γ : Ctx} {Q : Int32 → MI → MJ → Prop} {x1 : Int32} {x2 : Int32} {x3 : Int32}  (X : Cx Γ cX1_belongs 4 RX1 1) (Y : Rt Γ (Pi Q) (Option.some Jvm.ClassFile.FieldType.boolean))   {I : MI} {J : MJ} (h : f_Joining_belongs x1 x2 x3 I J Q) : Wp Γ 4 0 [(0, .ref (ad Γ 12)), (1, .int x1), (2, .int x2), (3, .int x3)] [] I J := by
  unfold f_Joining_belongs at h
  refine wp_aload_n X dX1_belongs_0 0 rfl ?_
  refine gf_X1_21 X sh_12 dX1_belongs_1 ?_
  by_cases hs0 : (I 12 2) = 0
  · have h := ite_t h hs0
    refine wp_tab (tgt := 40) (y := 0) X dX1_belongs_4 hs0 (by decide) (by decide) rfl (by decide) ?_
    refine wp_iload_n X dX1_belongs_40 2 rfl ?_
    refine wp_aload_n X dX1_belongs_41 0 rfl ?_
    refine gf_X1_29 X sh_12 dX1_belongs_42 ?_
    refine cs_Joining_isIn X dX1_belongs_45 ml_X1_75  h (Nat.le_of_ble_eq_true rfl) (by decide) (fun r45 I45 J45 h => ?_)
    refine wp_if_eq (tgt := 66) X dX1_belongs_48 (by decide) (fun hc => ?_) (fun hc => ?_)
    · have h := ite_t h hc
      refine wp_iconst X dX1_belongs_66 ic_0 ?_
      exact wp_zret X Y dX1_belongs_67 (by decide) ⟨_, rfl, h⟩
    · have h := ite_f h hc
      refine wp_iload_n X dX1_belongs_51 3 rfl ?_
      refine wp_aload_n X dX1_belongs_52 0 rfl ?_
      refine gf_X1_32 X sh_12 dX1_belongs_53 ?_
      refine cs_Joining_isIn X dX1_belongs_56 ml_X1_75  h (Nat.le_of_ble_eq_true rfl) (by decide) (fun r56 I56 J56 h => ?_)
      refine wp_if_eq (tgt := 66) X dX1_belongs_59 (by decide) (fun hc => ?_) (fun hc => ?_)
      · have h := ite_t h hc
        refine wp_iconst X dX1_belongs_66 ic_0 ?_
        exact wp_zret X Y dX1_belongs_67 (by decide) ⟨_, rfl, h⟩
      · have h := ite_f h hc
        refine wp_iconst X dX1_belongs_62 ic_1 ?_
        refine wp_goto (tgt := 67) X dX1_belongs_63 (by decide) ?_
        exact wp_zret X Y dX1_belongs_67 (by decide) ⟨_, rfl, h⟩
  have h := ite_f h hs0
  by_cases hs1 : (I 12 2) = 1
  · have h := ite_t h hs1
    refine wp_tab (tgt := 68) (y := 1) X dX1_belongs_4 hs1 (by decide) (by decide) rfl (by decide) ?_
    refine wp_iload_n X dX1_belongs_68 2 rfl ?_
    refine wp_aload_n X dX1_belongs_69 0 rfl ?_
    refine gf_X1_29 X sh_12 dX1_belongs_70 ?_
    refine cs_Joining_isIn X dX1_belongs_73 ml_X1_75  h (Nat.le_of_ble_eq_true rfl) (by decide) (fun r73 I73 J73 h => ?_)
    refine wp_if_ne (tgt := 90) X dX1_belongs_76 (by decide) (fun hc => ?_) (fun hc => ?_)
    · have h := ite_f h hc
      refine wp_sub X [] rfl ?_
      exact w_Joining_belongs_b90 X Y  h
    · have h := ite_t h hc
      refine wp_iload_n X dX1_belongs_79 3 rfl ?_
      refine wp_aload_n X dX1_belongs_80 0 rfl ?_
      refine gf_X1_32 X sh_12 dX1_belongs_81 ?_
      refine cs_Joining_isIn X dX1_belongs_84 ml_X1_75  h (Nat.le_of_ble_eq_true rfl) (by decide) (fun r84 I84 J84 h => ?_)
      refine wp_if_eq (tgt := 94) X dX1_belongs_87 (by decide) (fun hc => ?_) (fun hc => ?_)
      · have h := ite_t h hc
        refine wp_iconst X dX1_belongs_94 ic_0 ?_
        exact wp_zret X Y dX1_belongs_95 (by decide) ⟨_, rfl, h⟩
      · have h := ite_f h hc
        refine wp_sub X [] rfl ?_
        exact w_Joining_belongs_b90 X Y  h
  have h := ite_f h hs1
  by_cases hs2 : (I 12 2) = 2
  · have h := ite_t h hs2
    refine wp_tab (tgt := 96) (y := 2) X dX1_belongs_4 hs2 (by decide) (by decide) rfl (by decide) ?_
    refine wp_iload_n X dX1_belongs_96 2 rfl ?_
    refine wp_aload_n X dX1_belongs_97 0 rfl ?_
    refine gf_X1_29 X sh_12 dX1_belongs_98 ?_
    refine cs_Joining_isIn X dX1_belongs_101 ml_X1_75  h (Nat.le_of_ble_eq_true rfl) (by decide) (fun r101 I101 J101 h => ?_)
    refine wp_if_ne (tgt := 111) X dX1_belongs_104 (by decide) (fun hc => ?_) (fun hc => ?_)
    · have h := ite_f h hc
      refine wp_iconst X dX1_belongs_111 ic_0 ?_
      exact wp_zret X Y dX1_belongs_112 (by decide) ⟨_, rfl, h⟩
    · have h := ite_t h hc
      refine wp_iconst X dX1_belongs_107 ic_1 ?_
      refine wp_goto (tgt := 112) X dX1_belongs_108 (by decide) ?_
      exact wp_zret X Y dX1_belongs_112 (by decide) ⟨_, rfl, h⟩
  have h := ite_f h hs2
  by_cases hs3 : (I 12 2) = 3
  · have h := ite_t h hs3
    refine wp_tab (tgt := 113) (y := 3) X dX1_belongs_4 hs3 (by decide) (by decide) rfl (by decide) ?_
    refine wp_iload_n X dX1_belongs_113 3 rfl ?_
    refine wp_aload_n X dX1_belongs_114 0 rfl ?_
    refine gf_X1_32 X sh_12 dX1_belongs_115 ?_
    refine wp_iand X dX1_belongs_118 ?_
    refine wp_if_eq (tgt := 126) X dX1_belongs_119 (by decide) (fun hc => ?_) (fun hc => ?_)
    · have h := ite_t h hc
      refine wp_iconst X dX1_belongs_126 ic_0 ?_
      exact wp_zret X Y dX1_belongs_127 (by decide) ⟨_, rfl, h⟩
    · have h := ite_f h hc
      refine wp_iconst X dX1_belongs_122 ic_1 ?_
      refine wp_goto (tgt := 127) X dX1_belongs_123 (by decide) ?_
      exact wp_zret X Y dX1_belongs_127 (by decide) ⟨_, rfl, h⟩
  have h := ite_f h hs3
  by_cases hs4 : (I 12 2) = 4
  · have h := ite_t h hs4
    refine wp_tab (tgt := 128) (y := 4) X dX1_belongs_4 hs4 (by decide) (by decide) rfl (by decide) ?_
    refine wp_iconst X dX1_belongs_128 ic_0 ?_
    refine wp_iload_n X dX1_belongs_129 3 rfl ?_
    refine cs_Joining_isIn X dX1_belongs_130 ml_X1_75  h (Nat.le_of_ble_eq_true rfl) (by decide) (fun r130 I130 J130 h => ?_)
    exact wp_zret X Y dX1_belongs_133 h.1 ⟨_, rfl, h.2⟩
  have h := ite_f h hs4
  have nt0 := lv_neT hs0 (a := 0) (by decide)
  have nt1 := lv_neT hs1 (a := 1) (by decide)
  have nt2 := lv_neT hs2 (a := 2) (by decide)
  have nt3 := lv_neT hs3 (a := 3) (by decide)
  have nt4 := lv_neT hs4 (a := 4) (by decide)
  refine wp_tableOut (tgt := 134) X dX1_belongs_4 (by omega) (by decide) ?_
  refine wp_iload_n X dX1_belongs_134 1 rfl ?_
  refine wp_sipush X dX1_belongs_135 si_16384 ?_
  refine wp_icmp_eq (tgt := 150) X dX1_belongs_138 (by decide) (fun hc => ?_) (fun hc => ?_)
  · have h := ite_t h hc
    refine wp_sub X [] rfl ?_
    exact w_Joining_belongs_b150 X Y  h
  · have h := ite_f h hc
    refine wp_iload_n X dX1_belongs_141 3 rfl ?_
    refine wp_aload_n X dX1_belongs_142 0 rfl ?_
    refine gf_X1_29 X sh_12 dX1_belongs_143 ?_
    refine wp_iand X dX1_belongs_146 ?_
    refine wp_if_eq (tgt := 154) X dX1_belongs_147 (by decide) (fun hc => ?_) (fun hc => ?_)
    · have h := ite_t h hc
      refine wp_iconst X dX1_belongs_154 ic_0 ?_
      exact wp_zret X Y dX1_belongs_155 (by decide) ⟨_, rfl, h⟩
    · have h := ite_f h hc
      refine wp_sub X [] rfl ?_
      exact w_Joining_belongs_b150 X Y  h

theorem c_Joining_belongs {l : Launch} {g : GE} (hg : Inj g) {I : MI} {J : MJ} {Q : Int32 → MI → MJ → Prop} {x1 : Int32} {x2 : Int32} {x3 : Int32}  (h : f_Joining_belongs x1 x2 x3 I J Q) : Cm l g yX1_belongs cX1_belongs 4 (Option.some Jvm.ClassFile.FieldType.boolean) 1 [.ref (g.1 12), .int x1, .int x2, .int x3] I J (Pi Q) := by
  refine Cm.of (As := fun ad => [.ref (ad 12), .int x1, .int x2, .int x3]) hg pn_X1 (Nat.le_of_ble_eq_true rfl) ?_
  exact (fun Γ _ _ X Y => w_Joining_belongs_b0 X Y  h)
theorem cv_Joining_belongs {Γ : Ctx} {cc : ByteArray} {nL d pc index : Nat} {own : String} {L : List (Nat × Value)} {rest : List Value} {I : MI} {J : MJ} {Q : Int32 → MI → MJ → Prop} {x1 : Int32} {x2 : Int32} {x3 : Int32} (X : Cx Γ cc nL own d) (hd : decode cc pc = .ok (.invokevirtual index, 3)) (hlink : Cond.methodLink own index yX1_belongs ∈ TT)  (h : f_Joining_belongs x1 x2 x3 I J Q) (hrest : (rest.map fun v => v.category).sum ≤ 8) (hdd : 1 + 1 ≤ d) (kk : ∀ (r : Int32) (I' : MI) (J' : MJ), Q r I' J' → Wp Γ nL (pc + 3) L (.int r :: rest) I' J') : Wp Γ nL pc L (.int x3 :: .int x2 :: .int x1 :: .ref (ad Γ 12) :: rest) I J :=
  wp_callV (As := [.int x1, .int x2, .int x3]) (rest := rest) (T := TX1) (N := 5) X hd hlink mv_X1_belongs sh_12 (by decide) rfl (c_Joining_belongs X.inj  h) rfl rfl hrest hdd (fun v I' J' hv => by obtain ⟨r, rfl, hq⟩ := hv; exact kk r I' J' hq)
theorem dX1_answerAt_0 : decode cX1_answerAt 0 = .ok (.aload_n 0, 1) := by decide +kernel
theorem dX1_answerAt_1 : decode cX1_answerAt 1 = .ok (.iload_n 1, 1) := by decide +kernel
theorem dX1_answerAt_2 : decode cX1_answerAt 2 = .ok (.iload_n 1, 1) := by decide +kernel
theorem dX1_answerAt_3 : decode cX1_answerAt 3 = .ok (.bipush 14, 2) := by decide +kernel
theorem dX1_answerAt_5 : decode cX1_answerAt 5 = .ok (.ishr, 1) := by decide +kernel
theorem dX1_answerAt_6 : decode cX1_answerAt 6 = .ok (.iload_n 1, 1) := by decide +kernel
theorem dX1_answerAt_7 : decode cX1_answerAt 7 = .ok (.sipush 16383, 3) := by decide +kernel
theorem dX1_answerAt_10 : decode cX1_answerAt 10 = .ok (.iand, 1) := by decide +kernel
theorem dX1_answerAt_11 : decode cX1_answerAt 11 = .ok (.invokevirtual 71, 3) := by decide +kernel
theorem dX1_answerAt_14 : decode cX1_answerAt 14 = .ok (.ifCond .eq 7, 3) := by decide +kernel
theorem dX1_answerAt_17 : decode cX1_answerAt 17 = .ok (.iconst 1, 1) := by decide +kernel
theorem dX1_answerAt_18 : decode cX1_answerAt 18 = .ok (.goto 4, 3) := by decide +kernel
theorem dX1_answerAt_21 : decode cX1_answerAt 21 = .ok (.iconst 0, 1) := by decide +kernel
theorem dX1_answerAt_22 : decode cX1_answerAt 22 = .ok (.ireturn, 1) := by decide +kernel
def f_Joining_answerAt (x1 : Int32) (I : MI) (J : MJ) (Q : Int32 → MI → MJ → Prop) : Prop :=
  f_Joining_belongs x1 (x1 >>> (14 &&& 31)) (x1 &&& 16383) I J (fun r11 I11 J11 => (if r11 = 0 then Q 0 I11 J11 else Q 1 I11 J11))
set_option maxRecDepth 100000 in
set_option maxHeartbeats 4000000 in
theorem w_Joining_answerAt_b0 {Γ : Ctx} {Q : Int32 → MI → MJ → Prop} {x1 : Int32}  (X : Cx Γ cX1_answerAt 2 RX1 2) (Y : Rt Γ (Pi Q) (Option.some Jvm.ClassFile.FieldType.int))   {I : MI} {J : MJ} (h : f_Joining_answerAt x1 I J Q) : Wp Γ 2 0 [(0, .ref (ad Γ 12)), (1, .int x1)] [] I J := by
  unfold f_Joining_answerAt at h
  refine wp_aload_n X dX1_answerAt_0 0 rfl ?_
  refine wp_iload_n X dX1_answerAt_1 1 rfl ?_
  refine wp_iload_n X dX1_answerAt_2 1 rfl ?_
  refine wp_bipush X dX1_answerAt_3 bi_14 ?_
  refine wp_ishr X dX1_answerAt_5 ?_
  refine wp_iload_n X dX1_answerAt_6 1 rfl ?_
  refine wp_sipush X dX1_answerAt_7 si_16383 ?_
  refine wp_iand X dX1_answerAt_10 ?_
  refine cv_Joining_belongs X dX1_answerAt_11 ml_X1_71  h (Nat.le_of_ble_eq_true rfl) (by decide) (fun r11 I11 J11 h => ?_)
  refine wp_if_eq (tgt := 21) X dX1_answerAt_14 (by decide) (fun hc => ?_) (fun hc => ?_)
  · have h := ite_t h hc
    refine wp_iconst X dX1_answerAt_21 ic_0 ?_
    exact wp_iret X Y dX1_answerAt_22 ⟨_, rfl, h⟩
  · have h := ite_f h hc
    refine wp_iconst X dX1_answerAt_17 ic_1 ?_
    refine wp_goto (tgt := 22) X dX1_answerAt_18 (by decide) ?_
    exact wp_iret X Y dX1_answerAt_22 ⟨_, rfl, h⟩

theorem c_Joining_answerAt {l : Launch} {g : GE} (hg : Inj g) {I : MI} {J : MJ} {Q : Int32 → MI → MJ → Prop} {x1 : Int32}  (h : f_Joining_answerAt x1 I J Q) : Cm l g yX1_answerAt cX1_answerAt 2 (Option.some Jvm.ClassFile.FieldType.int) 2 [.ref (g.1 12), .int x1] I J (Pi Q) := by
  refine Cm.of (As := fun ad => [.ref (ad 12), .int x1]) hg pn_X1 (Nat.le_of_ble_eq_true rfl) ?_
  exact (fun Γ _ _ X Y => w_Joining_answerAt_b0 X Y  h)
theorem cu_Joining_answerAt {Γ : Ctx} {cc : ByteArray} {nL d pc index : Nat} {own : String} {L : List (Nat × Value)} {rest : List Value} {I : MI} {J : MJ} {Q : Int32 → MI → MJ → Prop} {x1 : Int32} (X : Cx Γ cc nL own d) (hd : decode cc pc = .ok (.invokevirtual index, 3)) (hlink : Cond.methodLink own index ⟨RX8, "answerAt", "(I)I"⟩ ∈ TT)  (h : f_Joining_answerAt x1 I J Q) (hrest : (rest.map fun v => v.category).sum ≤ 8) (hdd : 2 + 1 ≤ d) (kk : ∀ (r : Int32) (I' : MI) (J' : MJ), Q r I' J' → Wp Γ nL (pc + 3) L (.int r :: rest) I' J') : Wp Γ nL pc L (.int x1 :: .ref (ad Γ 12) :: rest) I J :=
  wp_callU (x := ⟨RX8, "answerAt", "(I)I"⟩) (n := 1) (As := [.int x1]) (rest := rest) (T := TX1) (N := 5) X hd hlink rfl (fun g U h => h.2.2.2) (TT_at 740 (by decide +kernel) rfl) (TT_at 741 (by decide +kernel) rfl) (TT_at 742 (by decide +kernel) rfl) (TT_at 111 (by decide +kernel) rfl) (TT_at 743 (by decide +kernel) rfl) (by decide +kernel) (by decide) sh_12 (by decide) rfl (c_Joining_answerAt X.inj  h) rfl rfl hrest hdd (fun v I' J' hv => by obtain ⟨r, rfl, hq⟩ := hv; exact kk r I' J' hq)
