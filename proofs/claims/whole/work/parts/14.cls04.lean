theorem dX5_haveSameRow_0 : decode cX5_haveSameRow 0 = .ok (.iconst 0, 1) := by decide +kernel
theorem dX5_haveSameRow_1 : decode cX5_haveSameRow 1 = .ok (.istore_n 3, 1) := by decide +kernel
theorem dX5_haveSameRow_2 : decode cX5_haveSameRow 2 = .ok (.iload_n 3, 1) := by decide +kernel
theorem dX5_haveSameRow_3 : decode cX5_haveSameRow 3 = .ok (.aload_n 0, 1) := by decide +kernel
theorem dX5_haveSameRow_4 : decode cX5_haveSameRow 4 = .ok (.getfield 50, 3) := by decide +kernel
theorem dX5_haveSameRow_7 : decode cX5_haveSameRow 7 = .ok (.if_icmp .ge 36, 3) := by decide +kernel
theorem dX5_haveSameRow_10 : decode cX5_haveSameRow 10 = .ok (.aload_n 0, 1) := by decide +kernel
theorem dX5_haveSameRow_11 : decode cX5_haveSameRow 11 = .ok (.getfield 32, 3) := by decide +kernel
theorem dX5_haveSameRow_14 : decode cX5_haveSameRow 14 = .ok (.iload_n 1, 1) := by decide +kernel
theorem dX5_haveSameRow_15 : decode cX5_haveSameRow 15 = .ok (.bipush 14, 2) := by decide +kernel
theorem dX5_haveSameRow_17 : decode cX5_haveSameRow 17 = .ok (.imul, 1) := by decide +kernel
theorem dX5_haveSameRow_18 : decode cX5_haveSameRow 18 = .ok (.iload_n 3, 1) := by decide +kernel
theorem dX5_haveSameRow_19 : decode cX5_haveSameRow 19 = .ok (.iadd, 1) := by decide +kernel
theorem dX5_haveSameRow_20 : decode cX5_haveSameRow 20 = .ok (.iaload, 1) := by decide +kernel
theorem dX5_haveSameRow_21 : decode cX5_haveSameRow 21 = .ok (.aload_n 0, 1) := by decide +kernel
theorem dX5_haveSameRow_22 : decode cX5_haveSameRow 22 = .ok (.getfield 32, 3) := by decide +kernel
theorem dX5_haveSameRow_25 : decode cX5_haveSameRow 25 = .ok (.iload_n 2, 1) := by decide +kernel
theorem dX5_haveSameRow_26 : decode cX5_haveSameRow 26 = .ok (.bipush 14, 2) := by decide +kernel
theorem dX5_haveSameRow_28 : decode cX5_haveSameRow 28 = .ok (.imul, 1) := by decide +kernel
theorem dX5_haveSameRow_29 : decode cX5_haveSameRow 29 = .ok (.iload_n 3, 1) := by decide +kernel
theorem dX5_haveSameRow_30 : decode cX5_haveSameRow 30 = .ok (.iadd, 1) := by decide +kernel
theorem dX5_haveSameRow_31 : decode cX5_haveSameRow 31 = .ok (.iaload, 1) := by decide +kernel
theorem dX5_haveSameRow_32 : decode cX5_haveSameRow 32 = .ok (.if_icmp .eq 5, 3) := by decide +kernel
theorem dX5_haveSameRow_35 : decode cX5_haveSameRow 35 = .ok (.iconst 0, 1) := by decide +kernel
theorem dX5_haveSameRow_36 : decode cX5_haveSameRow 36 = .ok (.ireturn, 1) := by decide +kernel
theorem dX5_haveSameRow_37 : decode cX5_haveSameRow 37 = .ok (.iinc 3 1, 3) := by decide +kernel
theorem dX5_haveSameRow_40 : decode cX5_haveSameRow 40 = .ok (.goto (-38), 3) := by decide +kernel
theorem dX5_haveSameRow_43 : decode cX5_haveSameRow 43 = .ok (.iconst 1, 1) := by decide +kernel
theorem dX5_haveSameRow_44 : decode cX5_haveSameRow 44 = .ok (.ireturn, 1) := by decide +kernel
def f_Pupil_haveSameRow_L2 (x1 : Int32) (x2 : Int32) (k35 : MI → MJ → Prop) (k43 : MI → MJ → Prop) : Nat → Int32 → MI → MJ → Prop
  | 0, _, _, _ => False
  | nf2 + 1, x3, I, J =>
  (if (I 37 3) ≤ x3 then k43 I J else vp_in ((x1 * 14) + x3) 196 ∧ vp_in ((x2 * 14) + x3) 196 ∧ (if (I 51 ((x1 * 14) + x3).toNatClampNeg) = (I 51 ((x2 * 14) + x3).toNatClampNeg) then ∀ t37 : Int32, t37 = x3 + 1 → f_Pupil_haveSameRow_L2 x1 x2 k35 k43 nf2 t37 I J else k35 I J))
def f_Pupil_haveSameRow (x1 : Int32) (x2 : Int32) (I : MI) (J : MJ) (Q : Int32 → MI → MJ → Prop) : Prop :=
  ∃ n, f_Pupil_haveSameRow_L2 x1 x2 (fun (I : MI) (J : MJ) => Q 0 I J) (fun (I : MI) (J : MJ) => Q 1 I J) n 0 I J
set_option maxRecDepth 100000 in
set_option maxHeartbeats 4000000 in
theorem w_Pupil_haveSameRow_L2 {Γ : Ctx} {Q : Int32 → MI → MJ → Prop} {x1 : Int32} {x2 : Int32} {k35 : MI → MJ → Prop} {k43 : MI → MJ → Prop} (X : Cx Γ cX5_haveSameRow 4 RX5 0) (Y : Rt Γ (Pi Q) (Option.some Jvm.ClassFile.FieldType.boolean))  (hk35 : ∀ (I : MI) (J : MJ), k35 I J → Wp Γ 4 35 [] [] I J) (hk43 : ∀ (I : MI) (J : MJ), k43 I J → Wp Γ 4 43 [] [] I J) : ∀ (n : Nat) (x3 : Int32) (I : MI) (J : MJ), f_Pupil_haveSameRow_L2 x1 x2 k35 k43 n x3 I J → Wp Γ 4 2 [(0, .ref (ad Γ 37)), (1, .int x1), (2, .int x2), (3, .int x3)] [] I J := by
  intro n
  induction n with
  | zero => intro x3 I J h; exact absurd h (by simp [f_Pupil_haveSameRow_L2])
  | succ n ih =>
  intro x3 I J h
  unfold f_Pupil_haveSameRow_L2 at h
  refine wp_iload_n X dX5_haveSameRow_2 3 rfl ?_
  refine wp_aload_n X dX5_haveSameRow_3 0 rfl ?_
  refine gf_X5_50 X sh_37 dX5_haveSameRow_4 ?_
  refine wp_icmp_ge (tgt := 43) X dX5_haveSameRow_7 (by decide) (fun hc => ?_) (fun hc => ?_)
  · have h := ite_t h hc
    refine wp_sub X [] rfl ?_
    exact hk43 _ _ h
  · have h := ite_f h hc
    refine wp_aload_n X dX5_haveSameRow_10 0 rfl ?_
    refine gf_X5_32 (o' := 51) X sh_37 rfl dX5_haveSameRow_11 ?_
    refine wp_iload_n X dX5_haveSameRow_14 1 rfl ?_
    refine wp_bipush X dX5_haveSameRow_15 bi_14 ?_
    refine wp_imul X dX5_haveSameRow_17 ?_
    refine wp_iload_n X dX5_haveSameRow_18 3 rfl ?_
    refine wp_iadd X dX5_haveSameRow_19 ?_
    obtain ⟨hb20, h⟩ := h
    refine wp_iald X sh_51 hb20 dX5_haveSameRow_20 ?_
    refine wp_aload_n X dX5_haveSameRow_21 0 rfl ?_
    refine gf_X5_32 (o' := 51) X sh_37 rfl dX5_haveSameRow_22 ?_
    refine wp_iload_n X dX5_haveSameRow_25 2 rfl ?_
    refine wp_bipush X dX5_haveSameRow_26 bi_14 ?_
    refine wp_imul X dX5_haveSameRow_28 ?_
    refine wp_iload_n X dX5_haveSameRow_29 3 rfl ?_
    refine wp_iadd X dX5_haveSameRow_30 ?_
    obtain ⟨hb31, h⟩ := h
    refine wp_iald X sh_51 hb31 dX5_haveSameRow_31 ?_
    refine wp_icmp_eq (tgt := 37) X dX5_haveSameRow_32 (by decide) (fun hc => ?_) (fun hc => ?_)
    · have h := ite_t h hc
      obtain ⟨t37, et37⟩ : ∃ y : Int32, y = x3 + 1 := ⟨_, rfl⟩
      have h := h t37 et37
      refine wp_iinc (L' := [(3, .int t37), (0, .ref (ad Γ 37)), (1, .int x1), (2, .int x2)]) X dX5_haveSameRow_37 3 rfl (ii_1 et37) (by decide) rfl ?_
      refine wp_goto (tgt := 2) X dX5_haveSameRow_40 (by decide) ?_
      refine wp_sub X [1, 2, 3, 0] rfl ?_
      exact ih _ _ _ h
    · have h := ite_f h hc
      refine wp_sub X [] rfl ?_
      exact hk35 _ _ h

set_option maxRecDepth 100000 in
set_option maxHeartbeats 4000000 in
theorem w_Pupil_haveSameRow_b0 {Γ : Ctx} {Q : Int32 → MI → MJ → Prop} {x1 : Int32} {x2 : Int32}  (X : Cx Γ cX5_haveSameRow 4 RX5 0) (Y : Rt Γ (Pi Q) (Option.some Jvm.ClassFile.FieldType.boolean))   {I : MI} {J : MJ} (h : f_Pupil_haveSameRow x1 x2 I J Q) : Wp Γ 4 0 [(0, .ref (ad Γ 37)), (1, .int x1), (2, .int x2)] [] I J := by
  unfold f_Pupil_haveSameRow at h
  refine wp_iconst X dX5_haveSameRow_0 ic_0 ?_
  refine wp_istore_n (L' := [(3, .int 0), (0, .ref (ad Γ 37)), (1, .int x1), (2, .int x2)]) X dX5_haveSameRow_1 rfl (by decide) rfl ?_
  obtain ⟨n, h⟩ := h
  refine wp_sub X [1, 2, 3, 0] rfl ?_
  refine w_Pupil_haveSameRow_L2 X Y  ?_ ?_ n _ _ _ h
  · intro I J h
    refine wp_iconst X dX5_haveSameRow_35 ic_0 ?_
    exact wp_zret X Y dX5_haveSameRow_36 (by decide) ⟨_, rfl, h⟩
  · intro I J h
    refine wp_iconst X dX5_haveSameRow_43 ic_1 ?_
    exact wp_zret X Y dX5_haveSameRow_44 (by decide) ⟨_, rfl, h⟩

theorem c_Pupil_haveSameRow {l : Launch} {g : GE} (hg : Inj g) {I : MI} {J : MJ} {Q : Int32 → MI → MJ → Prop} {x1 : Int32} {x2 : Int32}  (h : f_Pupil_haveSameRow x1 x2 I J Q) : Cm l g yX5_haveSameRow cX5_haveSameRow 4 (Option.some Jvm.ClassFile.FieldType.boolean) 0 [.ref (g.1 37), .int x1, .int x2] I J (Pi Q) := by
  refine Cm.of (As := fun ad => [.ref (ad 37), .int x1, .int x2]) hg pn_X5 (Nat.le_of_ble_eq_true rfl) ?_
  exact (fun Γ _ _ X Y => w_Pupil_haveSameRow_b0 X Y  h)
theorem cv_Pupil_haveSameRow {Γ : Ctx} {cc : ByteArray} {nL d pc index : Nat} {own : String} {L : List (Nat × Value)} {rest : List Value} {I : MI} {J : MJ} {Q : Int32 → MI → MJ → Prop} {x1 : Int32} {x2 : Int32} (X : Cx Γ cc nL own d) (hd : decode cc pc = .ok (.invokevirtual index, 3)) (hlink : Cond.methodLink own index yX5_haveSameRow ∈ TT)  (h : f_Pupil_haveSameRow x1 x2 I J Q) (hrest : (rest.map fun v => v.category).sum ≤ 8) (hdd : 0 + 1 ≤ d) (kk : ∀ (r : Int32) (I' : MI) (J' : MJ), Q r I' J' → Wp Γ nL (pc + 3) L (.int r :: rest) I' J') : Wp Γ nL pc L (.int x2 :: .int x1 :: .ref (ad Γ 37) :: rest) I J :=
  wp_callV (As := [.int x1, .int x2]) (rest := rest) (T := TX5) (N := 12) X hd hlink mv_X5_haveSameRow sh_37 (by decide) rfl (c_Pupil_haveSameRow X.inj  h) rfl rfl hrest hdd (fun v I' J' hv => by obtain ⟨r, rfl, hq⟩ := hv; exact kk r I' J' hq)
theorem dX5_aheadLike_0 : decode cX5_aheadLike 0 = .ok (.iconst 0, 1) := by decide +kernel
theorem dX5_aheadLike_1 : decode cX5_aheadLike 1 = .ok (.istore_n 2, 1) := by decide +kernel
theorem dX5_aheadLike_2 : decode cX5_aheadLike 2 = .ok (.iload_n 2, 1) := by decide +kernel
theorem dX5_aheadLike_3 : decode cX5_aheadLike 3 = .ok (.aload_n 0, 1) := by decide +kernel
theorem dX5_aheadLike_4 : decode cX5_aheadLike 4 = .ok (.getfield 47, 3) := by decide +kernel
theorem dX5_aheadLike_7 : decode cX5_aheadLike 7 = .ok (.if_icmp .ge 25, 3) := by decide +kernel
theorem dX5_aheadLike_10 : decode cX5_aheadLike 10 = .ok (.aload_n 0, 1) := by decide +kernel
theorem dX5_aheadLike_11 : decode cX5_aheadLike 11 = .ok (.aload_n 0, 1) := by decide +kernel
theorem dX5_aheadLike_12 : decode cX5_aheadLike 12 = .ok (.getfield 28, 3) := by decide +kernel
theorem dX5_aheadLike_15 : decode cX5_aheadLike 15 = .ok (.iload_n 2, 1) := by decide +kernel
theorem dX5_aheadLike_16 : decode cX5_aheadLike 16 = .ok (.iaload, 1) := by decide +kernel
theorem dX5_aheadLike_17 : decode cX5_aheadLike 17 = .ok (.iload_n 1, 1) := by decide +kernel
theorem dX5_aheadLike_18 : decode cX5_aheadLike 18 = .ok (.invokevirtual 96, 3) := by decide +kernel
theorem dX5_aheadLike_21 : decode cX5_aheadLike 21 = .ok (.ifCond .eq 5, 3) := by decide +kernel
theorem dX5_aheadLike_24 : decode cX5_aheadLike 24 = .ok (.iload_n 2, 1) := by decide +kernel
theorem dX5_aheadLike_25 : decode cX5_aheadLike 25 = .ok (.ireturn, 1) := by decide +kernel
theorem dX5_aheadLike_26 : decode cX5_aheadLike 26 = .ok (.iinc 2 1, 3) := by decide +kernel
theorem dX5_aheadLike_29 : decode cX5_aheadLike 29 = .ok (.goto (-27), 3) := by decide +kernel
theorem dX5_aheadLike_32 : decode cX5_aheadLike 32 = .ok (.iconst (-1), 1) := by decide +kernel
theorem dX5_aheadLike_33 : decode cX5_aheadLike 33 = .ok (.ireturn, 1) := by decide +kernel
def f_Pupil_aheadLike_L2 (x1 : Int32) (k24 : Int32 → MI → MJ → Prop) (k32 : MI → MJ → Prop) : Nat → Int32 → MI → MJ → Prop
  | 0, _, _, _ => False
  | nf2 + 1, x2, I, J =>
  (if (I 37 2) ≤ x2 then k32 I J else vp_in x2 14 ∧ f_Pupil_haveSameRow (I 50 x2.toNatClampNeg) x1 I J (fun r18 I18 J18 => (if r18 = 0 then ∀ t26 : Int32, t26 = x2 + 1 → f_Pupil_aheadLike_L2 x1 k24 k32 nf2 t26 I18 J18 else k24 x2 I18 J18)))
def f_Pupil_aheadLike (x1 : Int32) (I : MI) (J : MJ) (Q : Int32 → MI → MJ → Prop) : Prop :=
  ∃ n, f_Pupil_aheadLike_L2 x1 (fun (z24_x2 : Int32) (I : MI) (J : MJ) => Q z24_x2 I J) (fun (I : MI) (J : MJ) => Q (-1) I J) n 0 I J
set_option maxRecDepth 100000 in
set_option maxHeartbeats 4000000 in
theorem w_Pupil_aheadLike_L2 {Γ : Ctx} {Q : Int32 → MI → MJ → Prop} {x1 : Int32} {k24 : Int32 → MI → MJ → Prop} {k32 : MI → MJ → Prop} (X : Cx Γ cX5_aheadLike 3 RX5 1) (Y : Rt Γ (Pi Q) (Option.some Jvm.ClassFile.FieldType.int))  (hk24 : ∀ (x2 : Int32) (I : MI) (J : MJ), k24 x2 I J → Wp Γ 3 24 [(2, .int x2)] [] I J) (hk32 : ∀ (I : MI) (J : MJ), k32 I J → Wp Γ 3 32 [] [] I J) : ∀ (n : Nat) (x2 : Int32) (I : MI) (J : MJ), f_Pupil_aheadLike_L2 x1 k24 k32 n x2 I J → Wp Γ 3 2 [(0, .ref (ad Γ 37)), (1, .int x1), (2, .int x2)] [] I J := by
  intro n
  induction n with
  | zero => intro x2 I J h; exact absurd h (by simp [f_Pupil_aheadLike_L2])
  | succ n ih =>
  intro x2 I J h
  unfold f_Pupil_aheadLike_L2 at h
  refine wp_iload_n X dX5_aheadLike_2 2 rfl ?_
  refine wp_aload_n X dX5_aheadLike_3 0 rfl ?_
  refine gf_X5_47 X sh_37 dX5_aheadLike_4 ?_
  refine wp_icmp_ge (tgt := 32) X dX5_aheadLike_7 (by decide) (fun hc => ?_) (fun hc => ?_)
  · have h := ite_t h hc
    refine wp_sub X [] rfl ?_
    exact hk32 _ _ h
  · have h := ite_f h hc
    refine wp_aload_n X dX5_aheadLike_10 0 rfl ?_
    refine wp_aload_n X dX5_aheadLike_11 0 rfl ?_
    refine gf_X5_28 (o' := 50) X sh_37 rfl dX5_aheadLike_12 ?_
    refine wp_iload_n X dX5_aheadLike_15 2 rfl ?_
    obtain ⟨hb16, h⟩ := h
    refine wp_iald X sh_50 hb16 dX5_aheadLike_16 ?_
    refine wp_iload_n X dX5_aheadLike_17 1 rfl ?_
    refine cv_Pupil_haveSameRow X dX5_aheadLike_18 ml_X5_96  h (Nat.le_of_ble_eq_true rfl) (by decide) (fun r18 I18 J18 h => ?_)
    refine wp_if_eq (tgt := 26) X dX5_aheadLike_21 (by decide) (fun hc => ?_) (fun hc => ?_)
    · have h := ite_t h hc
      obtain ⟨t26, et26⟩ : ∃ y : Int32, y = x2 + 1 := ⟨_, rfl⟩
      have h := h t26 et26
      refine wp_iinc (L' := [(2, .int t26), (0, .ref (ad Γ 37)), (1, .int x1)]) X dX5_aheadLike_26 2 rfl (ii_1 et26) (by decide) rfl ?_
      refine wp_goto (tgt := 2) X dX5_aheadLike_29 (by decide) ?_
      refine wp_sub X [1, 2, 0] rfl ?_
      exact ih _ _ _ h
    · have h := ite_f h hc
      refine wp_sub X [2] rfl ?_
      exact hk24 _ _ _ h

set_option maxRecDepth 100000 in
set_option maxHeartbeats 4000000 in
theorem w_Pupil_aheadLike_b0 {Γ : Ctx} {Q : Int32 → MI → MJ → Prop} {x1 : Int32}  (X : Cx Γ cX5_aheadLike 3 RX5 1) (Y : Rt Γ (Pi Q) (Option.some Jvm.ClassFile.FieldType.int))   {I : MI} {J : MJ} (h : f_Pupil_aheadLike x1 I J Q) : Wp Γ 3 0 [(0, .ref (ad Γ 37)), (1, .int x1)] [] I J := by
  unfold f_Pupil_aheadLike at h
  refine wp_iconst X dX5_aheadLike_0 ic_0 ?_
  refine wp_istore_n (L' := [(2, .int 0), (0, .ref (ad Γ 37)), (1, .int x1)]) X dX5_aheadLike_1 rfl (by decide) rfl ?_
  obtain ⟨n, h⟩ := h
  refine wp_sub X [1, 2, 0] rfl ?_
  refine w_Pupil_aheadLike_L2 X Y  ?_ ?_ n _ _ _ h
  · intro z24_x2 I J h
    refine wp_iload_n X dX5_aheadLike_24 0 rfl ?_
    exact wp_iret X Y dX5_aheadLike_25 ⟨_, rfl, h⟩
  · intro I J h
    refine wp_iconst X dX5_aheadLike_32 ic_m1 ?_
    exact wp_iret X Y dX5_aheadLike_33 ⟨_, rfl, h⟩

theorem c_Pupil_aheadLike {l : Launch} {g : GE} (hg : Inj g) {I : MI} {J : MJ} {Q : Int32 → MI → MJ → Prop} {x1 : Int32}  (h : f_Pupil_aheadLike x1 I J Q) : Cm l g yX5_aheadLike cX5_aheadLike 3 (Option.some Jvm.ClassFile.FieldType.int) 1 [.ref (g.1 37), .int x1] I J (Pi Q) := by
  refine Cm.of (As := fun ad => [.ref (ad 37), .int x1]) hg pn_X5 (Nat.le_of_ble_eq_true rfl) ?_
  exact (fun Γ _ _ X Y => w_Pupil_aheadLike_b0 X Y  h)
theorem cv_Pupil_aheadLike {Γ : Ctx} {cc : ByteArray} {nL d pc index : Nat} {own : String} {L : List (Nat × Value)} {rest : List Value} {I : MI} {J : MJ} {Q : Int32 → MI → MJ → Prop} {x1 : Int32} (X : Cx Γ cc nL own d) (hd : decode cc pc = .ok (.invokevirtual index, 3)) (hlink : Cond.methodLink own index yX5_aheadLike ∈ TT)  (h : f_Pupil_aheadLike x1 I J Q) (hrest : (rest.map fun v => v.category).sum ≤ 8) (hdd : 1 + 1 ≤ d) (kk : ∀ (r : Int32) (I' : MI) (J' : MJ), Q r I' J' → Wp Γ nL (pc + 3) L (.int r :: rest) I' J') : Wp Γ nL pc L (.int x1 :: .ref (ad Γ 37) :: rest) I J :=
  wp_callV (As := [.int x1]) (rest := rest) (T := TX5) (N := 12) X hd hlink mv_X5_aheadLike sh_37 (by decide) rfl (c_Pupil_aheadLike X.inj  h) rfl rfl hrest hdd (fun v I' J' hv => by obtain ⟨r, rfl, hq⟩ := hv; exact kk r I' J' hq)
theorem dX5_closeAhead_0 : decode cX5_closeAhead 0 = .ok (.iconst 0, 1) := by decide +kernel
theorem dX5_closeAhead_1 : decode cX5_closeAhead 1 = .ok (.istore_n 1, 1) := by decide +kernel
theorem dX5_closeAhead_2 : decode cX5_closeAhead 2 = .ok (.iload_n 1, 1) := by decide +kernel
theorem dX5_closeAhead_3 : decode cX5_closeAhead 3 = .ok (.aload_n 0, 1) := by decide +kernel
theorem dX5_closeAhead_4 : decode cX5_closeAhead 4 = .ok (.getfield 47, 3) := by decide +kernel
theorem dX5_closeAhead_7 : decode cX5_closeAhead 7 = .ok (.if_icmp .ge 114, 3) := by decide +kernel
theorem dX5_closeAhead_10 : decode cX5_closeAhead 10 = .ok (.iload_n 1, 1) := by decide +kernel
theorem dX5_closeAhead_11 : decode cX5_closeAhead 11 = .ok (.bipush 14, 2) := by decide +kernel
theorem dX5_closeAhead_13 : decode cX5_closeAhead 13 = .ok (.if_icmp .ge 108, 3) := by decide +kernel
theorem dX5_closeAhead_16 : decode cX5_closeAhead 16 = .ok (.iconst 0, 1) := by decide +kernel
theorem dX5_closeAhead_17 : decode cX5_closeAhead 17 = .ok (.istore_n 2, 1) := by decide +kernel
theorem dX5_closeAhead_18 : decode cX5_closeAhead 18 = .ok (.iload_n 2, 1) := by decide +kernel
theorem dX5_closeAhead_19 : decode cX5_closeAhead 19 = .ok (.aload_n 0, 1) := by decide +kernel
theorem dX5_closeAhead_20 : decode cX5_closeAhead 20 = .ok (.getfield 12, 3) := by decide +kernel
theorem dX5_closeAhead_23 : decode cX5_closeAhead 23 = .ok (.getfield 84, 3) := by decide +kernel
theorem dX5_closeAhead_26 : decode cX5_closeAhead 26 = .ok (.if_icmp .ge 89, 3) := by decide +kernel
theorem dX5_closeAhead_29 : decode cX5_closeAhead 29 = .ok (.aload_n 0, 1) := by decide +kernel
theorem dX5_closeAhead_30 : decode cX5_closeAhead 30 = .ok (.getfield 12, 3) := by decide +kernel
theorem dX5_closeAhead_33 : decode cX5_closeAhead 33 = .ok (.aload_n 0, 1) := by decide +kernel
theorem dX5_closeAhead_34 : decode cX5_closeAhead 34 = .ok (.getfield 28, 3) := by decide +kernel
theorem dX5_closeAhead_37 : decode cX5_closeAhead 37 = .ok (.iload_n 1, 1) := by decide +kernel
theorem dX5_closeAhead_38 : decode cX5_closeAhead 38 = .ok (.iaload, 1) := by decide +kernel
theorem dX5_closeAhead_39 : decode cX5_closeAhead 39 = .ok (.iload_n 2, 1) := by decide +kernel
theorem dX5_closeAhead_40 : decode cX5_closeAhead 40 = .ok (.invokevirtual 87, 3) := by decide +kernel
theorem dX5_closeAhead_43 : decode cX5_closeAhead 43 = .ok (.istore_n 3, 1) := by decide +kernel
theorem dX5_closeAhead_44 : decode cX5_closeAhead 44 = .ok (.iload_n 3, 1) := by decide +kernel
theorem dX5_closeAhead_45 : decode cX5_closeAhead 45 = .ok (.iconst (-1), 1) := by decide +kernel
theorem dX5_closeAhead_46 : decode cX5_closeAhead 46 = .ok (.if_icmp .eq 63, 3) := by decide +kernel
theorem dX5_closeAhead_49 : decode cX5_closeAhead 49 = .ok (.aload_n 0, 1) := by decide +kernel
theorem dX5_closeAhead_50 : decode cX5_closeAhead 50 = .ok (.iload_n 3, 1) := by decide +kernel
theorem dX5_closeAhead_51 : decode cX5_closeAhead 51 = .ok (.invokevirtual 91, 3) := by decide +kernel
theorem dX5_closeAhead_54 : decode cX5_closeAhead 54 = .ok (.iconst (-1), 1) := by decide +kernel
theorem dX5_closeAhead_55 : decode cX5_closeAhead 55 = .ok (.if_icmp .ne 54, 3) := by decide +kernel
theorem dX5_closeAhead_58 : decode cX5_closeAhead 58 = .ok (.aload_n 0, 1) := by decide +kernel
theorem dX5_closeAhead_59 : decode cX5_closeAhead 59 = .ok (.getfield 47, 3) := by decide +kernel
theorem dX5_closeAhead_62 : decode cX5_closeAhead 62 = .ok (.bipush 14, 2) := by decide +kernel
theorem dX5_closeAhead_64 : decode cX5_closeAhead 64 = .ok (.if_icmp .ge 45, 3) := by decide +kernel
theorem dX5_closeAhead_67 : decode cX5_closeAhead 67 = .ok (.aload_n 0, 1) := by decide +kernel
theorem dX5_closeAhead_68 : decode cX5_closeAhead 68 = .ok (.getfield 21, 3) := by decide +kernel
theorem dX5_closeAhead_71 : decode cX5_closeAhead 71 = .ok (.aload_n 0, 1) := by decide +kernel
theorem dX5_closeAhead_72 : decode cX5_closeAhead 72 = .ok (.getfield 47, 3) := by decide +kernel
theorem dX5_closeAhead_75 : decode cX5_closeAhead 75 = .ok (.ldc2_w 94, 3) := by decide +kernel
theorem dX5_closeAhead_78 : decode cX5_closeAhead 78 = .ok (.aload_n 0, 1) := by decide +kernel
theorem dX5_closeAhead_79 : decode cX5_closeAhead 79 = .ok (.getfield 21, 3) := by decide +kernel
theorem dX5_closeAhead_82 : decode cX5_closeAhead 82 = .ok (.iload_n 1, 1) := by decide +kernel
theorem dX5_closeAhead_83 : decode cX5_closeAhead 83 = .ok (.laload, 1) := by decide +kernel
theorem dX5_closeAhead_84 : decode cX5_closeAhead 84 = .ok (.lmul, 1) := by decide +kernel
theorem dX5_closeAhead_85 : decode cX5_closeAhead 85 = .ok (.iload_n 2, 1) := by decide +kernel
theorem dX5_closeAhead_86 : decode cX5_closeAhead 86 = .ok (.i2l, 1) := by decide +kernel
theorem dX5_closeAhead_87 : decode cX5_closeAhead 87 = .ok (.ladd, 1) := by decide +kernel
theorem dX5_closeAhead_88 : decode cX5_closeAhead 88 = .ok (.lastore, 1) := by decide +kernel
theorem dX5_closeAhead_89 : decode cX5_closeAhead 89 = .ok (.aload_n 0, 1) := by decide +kernel
theorem dX5_closeAhead_90 : decode cX5_closeAhead 90 = .ok (.getfield 28, 3) := by decide +kernel
theorem dX5_closeAhead_93 : decode cX5_closeAhead 93 = .ok (.aload_n 0, 1) := by decide +kernel
theorem dX5_closeAhead_94 : decode cX5_closeAhead 94 = .ok (.getfield 47, 3) := by decide +kernel
theorem dX5_closeAhead_97 : decode cX5_closeAhead 97 = .ok (.iload_n 3, 1) := by decide +kernel
theorem dX5_closeAhead_98 : decode cX5_closeAhead 98 = .ok (.iastore, 1) := by decide +kernel
theorem dX5_closeAhead_99 : decode cX5_closeAhead 99 = .ok (.aload_n 0, 1) := by decide +kernel
theorem dX5_closeAhead_100 : decode cX5_closeAhead 100 = .ok (.dup, 1) := by decide +kernel
theorem dX5_closeAhead_101 : decode cX5_closeAhead 101 = .ok (.getfield 47, 3) := by decide +kernel
theorem dX5_closeAhead_104 : decode cX5_closeAhead 104 = .ok (.iconst 1, 1) := by decide +kernel
theorem dX5_closeAhead_105 : decode cX5_closeAhead 105 = .ok (.iadd, 1) := by decide +kernel
theorem dX5_closeAhead_106 : decode cX5_closeAhead 106 = .ok (.putfield 47, 3) := by decide +kernel
theorem dX5_closeAhead_109 : decode cX5_closeAhead 109 = .ok (.iinc 2 1, 3) := by decide +kernel
theorem dX5_closeAhead_112 : decode cX5_closeAhead 112 = .ok (.goto (-94), 3) := by decide +kernel
theorem dX5_closeAhead_115 : decode cX5_closeAhead 115 = .ok (.iinc 1 1, 3) := by decide +kernel
theorem dX5_closeAhead_118 : decode cX5_closeAhead 118 = .ok (.goto (-116), 3) := by decide +kernel
theorem dX5_closeAhead_121 : decode cX5_closeAhead 121 = .ok (.return_, 1) := by decide +kernel
def f_Pupil_closeAhead_b109 (x2 : Int32) (kh : Int32 → MI → MJ → Prop) (I : MI) (J : MJ) : Prop :=
  ∀ t109 : Int32, t109 = x2 + 1 → kh t109 I J
def f_Pupil_closeAhead_L18 (x1 : Int32) (k115 : MI → MJ → Prop) : Nat → Int32 → MI → MJ → Prop
  | 0, _, _, _ => False
  | nf18 + 1, x2, I, J =>
  (if (I 38 2) ≤ x2 then k115 I J else vp_in x1 14 ∧ f_Machine_leadOf 38 (I 50 x1.toNatClampNeg) x2 I J (fun r40 I40 J40 => (if r40 = (-1) then f_Pupil_closeAhead_b109 x2 (f_Pupil_closeAhead_L18 x1 k115 nf18) I40 J40 else f_Pupil_aheadLike r40 I40 J40 (fun r51 I51 J51 => (if r51 = (-1) then (if 14 ≤ (I51 37 2) then f_Pupil_closeAhead_b109 x2 (f_Pupil_closeAhead_L18 x1 k115 nf18) I51 J51 else vp_in x1 14 ∧ vp_in (I51 37 2) 14 ∧ ∀ J88 : MJ, J88 = sJ J51 48 (vp_updL (J51 48) (I51 37 2).toNatClampNeg ((4 * (J51 48 x1.toNatClampNeg)) + x2.toInt64)) → vp_in (I51 37 2) 14 ∧ ∀ I98 : MI, I98 = sI I51 50 (upd (I51 50) (I51 37 2).toNatClampNeg r40) → ∀ I106 : MI, I106 = sI I98 37 (upd (I98 37) 2 ((I98 37 2) + 1)) → f_Pupil_closeAhead_b109 x2 (f_Pupil_closeAhead_L18 x1 k115 nf18) I106 J88) else f_Pupil_closeAhead_b109 x2 (f_Pupil_closeAhead_L18 x1 k115 nf18) I51 J51)))))
def f_Pupil_closeAhead_L2 (k121 : MI → MJ → Prop) : Nat → Int32 → MI → MJ → Prop
  | 0, _, _, _ => False
  | nf2 + 1, x1, I, J =>
  (if (I 37 2) ≤ x1 then k121 I J else (if 14 ≤ x1 then k121 I J else ∃ n, f_Pupil_closeAhead_L18 x1 (fun (I : MI) (J : MJ) => ∀ t115 : Int32, t115 = x1 + 1 → f_Pupil_closeAhead_L2 k121 nf2 t115 I J) n 0 I J))
def f_Pupil_closeAhead (I : MI) (J : MJ) (Q : MI → MJ → Prop) : Prop :=
  ∃ n, f_Pupil_closeAhead_L2 (fun (I : MI) (J : MJ) => Q I J) n 0 I J
set_option maxRecDepth 100000 in
set_option maxHeartbeats 4000000 in
theorem w_Pupil_closeAhead_b109 {Γ : Ctx} {Q : MI → MJ → Prop} {x1 : Int32} {x2 : Int32} {kh : Int32 → MI → MJ → Prop} (X : Cx Γ cX5_closeAhead 4 RX5 2) (Y : Rt Γ (Pv Q) (Option.none : Option Jvm.ClassFile.FieldType))  (hkh : ∀ (x2 : Int32) (I : MI) (J : MJ), kh x2 I J → Wp Γ 4 18 [(0, .ref (ad Γ 37)), (1, .int x1), (2, .int x2)] [] I J) {I : MI} {J : MJ} (h : f_Pupil_closeAhead_b109 x2 kh I J) : Wp Γ 4 109 [(0, .ref (ad Γ 37)), (1, .int x1), (2, .int x2)] [] I J := by
  unfold f_Pupil_closeAhead_b109 at h
  obtain ⟨t109, et109⟩ : ∃ y : Int32, y = x2 + 1 := ⟨_, rfl⟩
  have h := h t109 et109
  refine wp_iinc (L' := [(2, .int t109), (0, .ref (ad Γ 37)), (1, .int x1)]) X dX5_closeAhead_109 2 rfl (ii_1 et109) (by decide) rfl ?_
  refine wp_goto (tgt := 18) X dX5_closeAhead_112 (by decide) ?_
  refine wp_sub X [1, 2, 0] rfl ?_
  exact hkh _ _ _ h

set_option maxRecDepth 100000 in
set_option maxHeartbeats 4000000 in
theorem w_Pupil_closeAhead_L18 {Γ : Ctx} {Q : MI → MJ → Prop} {x1 : Int32} {k115 : MI → MJ → Prop} (X : Cx Γ cX5_closeAhead 4 RX5 2) (Y : Rt Γ (Pv Q) (Option.none : Option Jvm.ClassFile.FieldType))  (hk115 : ∀ (I : MI) (J : MJ), k115 I J → Wp Γ 4 115 [(0, .ref (ad Γ 37)), (1, .int x1)] [] I J) : ∀ (n : Nat) (x2 : Int32) (I : MI) (J : MJ), f_Pupil_closeAhead_L18 x1 k115 n x2 I J → Wp Γ 4 18 [(0, .ref (ad Γ 37)), (1, .int x1), (2, .int x2)] [] I J := by
  intro n
  induction n with
  | zero => intro x2 I J h; exact absurd h (by simp [f_Pupil_closeAhead_L18])
  | succ n ih =>
  intro x2 I J h
  unfold f_Pupil_closeAhead_L18 at h
  refine wp_iload_n X dX5_closeAhead_18 2 rfl ?_
  refine wp_aload_n X dX5_closeAhead_19 0 rfl ?_
  refine gf_X5_12 (o' := 38) X sh_37 rfl dX5_closeAhead_20 ?_
  refine gf_X5_84 X okM_38.1 dX5_closeAhead_23 ?_
  refine wp_icmp_ge (tgt := 115) X dX5_closeAhead_26 (by decide) (fun hc => ?_) (fun hc => ?_)
  · have h := ite_t h hc
    refine wp_sub X [0, 1] rfl ?_
    exact hk115 _ _ h
  · have h := ite_f h hc
    refine wp_aload_n X dX5_closeAhead_29 0 rfl ?_
    refine gf_X5_12 (o' := 38) X sh_37 rfl dX5_closeAhead_30 ?_
    refine wp_aload_n X dX5_closeAhead_33 0 rfl ?_
    refine gf_X5_28 (o' := 50) X sh_37 rfl dX5_closeAhead_34 ?_
    refine wp_iload_n X dX5_closeAhead_37 1 rfl ?_
    obtain ⟨hb38, h⟩ := h
    refine wp_iald X sh_50 hb38 dX5_closeAhead_38 ?_
    refine wp_iload_n X dX5_closeAhead_39 2 rfl ?_
    refine cv_Machine_leadOf X dX5_closeAhead_40 ml_X5_87 okM_38 h (Nat.le_of_ble_eq_true rfl) (by decide) (fun r40 I40 J40 h => ?_)
    refine wp_istore_n (L' := [(3, .int r40), (0, .ref (ad Γ 37)), (1, .int x1), (2, .int x2)]) X dX5_closeAhead_43 rfl (by decide) rfl ?_
    refine wp_iload_n X dX5_closeAhead_44 0 rfl ?_
    refine wp_iconst X dX5_closeAhead_45 ic_m1 ?_
    refine wp_icmp_eq (tgt := 109) X dX5_closeAhead_46 (by decide) (fun hc => ?_) (fun hc => ?_)
    · have h := ite_t h hc
      refine wp_sub X [1, 2, 3] rfl ?_
      exact w_Pupil_closeAhead_b109 X Y ih h
    · have h := ite_f h hc
      refine wp_aload_n X dX5_closeAhead_49 1 rfl ?_
      refine wp_iload_n X dX5_closeAhead_50 0 rfl ?_
      refine cv_Pupil_aheadLike X dX5_closeAhead_51 ml_X5_91  h (Nat.le_of_ble_eq_true rfl) (by decide) (fun r51 I51 J51 h => ?_)
      refine wp_iconst X dX5_closeAhead_54 ic_m1 ?_
      refine wp_icmp_ne (tgt := 109) X dX5_closeAhead_55 (by decide) (fun hc => ?_) (fun hc => ?_)
      · have h := ite_f h hc
        refine wp_sub X [1, 2, 3] rfl ?_
        exact w_Pupil_closeAhead_b109 X Y ih h
      · have h := ite_t h hc
        refine wp_aload_n X dX5_closeAhead_58 1 rfl ?_
        refine gf_X5_47 X sh_37 dX5_closeAhead_59 ?_
        refine wp_bipush X dX5_closeAhead_62 bi_14 ?_
        refine wp_icmp_ge (tgt := 109) X dX5_closeAhead_64 (by decide) (fun hc => ?_) (fun hc => ?_)
        · have h := ite_t h hc
          refine wp_sub X [1, 2, 3] rfl ?_
          exact w_Pupil_closeAhead_b109 X Y ih h
        · have h := ite_f h hc
          refine wp_aload_n X dX5_closeAhead_67 1 rfl ?_
          refine gf_X5_21 (o' := 48) X sh_37 rfl dX5_closeAhead_68 ?_
          refine wp_aload_n X dX5_closeAhead_71 1 rfl ?_
          refine gf_X5_47 X sh_37 dX5_closeAhead_72 ?_
          refine wp_ldc2 X kl_X5_94 dX5_closeAhead_75 ?_
          refine wp_aload_n X dX5_closeAhead_78 1 rfl ?_
          refine gf_X5_21 (o' := 48) X sh_37 rfl dX5_closeAhead_79 ?_
          refine wp_iload_n X dX5_closeAhead_82 2 rfl ?_
          obtain ⟨hb83, h⟩ := h
          refine wp_lald X sh_48 hb83 dX5_closeAhead_83 ?_
          refine wp_lmul X dX5_closeAhead_84 ?_
          refine wp_iload_n X dX5_closeAhead_85 3 rfl ?_
          refine wp_i2l X dX5_closeAhead_86 ?_
          refine wp_ladd X dX5_closeAhead_87 ?_
          obtain ⟨hb88, h⟩ := h
          refine wp_last X sh_48 hb88 dX5_closeAhead_88 ?_
          refine wp_memJ (fun J88 eJ88 => ?_)
          have h := h J88 eJ88
          refine wp_aload_n X dX5_closeAhead_89 1 rfl ?_
          refine gf_X5_28 (o' := 50) X sh_37 rfl dX5_closeAhead_90 ?_
          refine wp_aload_n X dX5_closeAhead_93 1 rfl ?_
          refine gf_X5_47 X sh_37 dX5_closeAhead_94 ?_
          refine wp_iload_n X dX5_closeAhead_97 0 rfl ?_
          obtain ⟨hb98, h⟩ := h
          refine wp_iast X sh_50 hb98 dX5_closeAhead_98 ?_
          refine wp_memI (fun I98 eI98 => ?_)
          have h := h I98 eI98
          refine wp_aload_n X dX5_closeAhead_99 1 rfl ?_
          refine wp_dup X dX5_closeAhead_100 rfl ?_
          refine gf_X5_47 X sh_37 dX5_closeAhead_101 ?_
          refine wp_iconst X dX5_closeAhead_104 ic_1 ?_
          refine wp_iadd X dX5_closeAhead_105 ?_
          refine pf_X5_47 X sh_37 dX5_closeAhead_106 (fun I106 eI106 => ?_)
          have h := h I106 eI106
          refine wp_sub X [1, 2, 3] rfl ?_
          exact w_Pupil_closeAhead_b109 X Y ih h

set_option maxRecDepth 100000 in
set_option maxHeartbeats 4000000 in
theorem w_Pupil_closeAhead_L2 {Γ : Ctx} {Q : MI → MJ → Prop}  {k121 : MI → MJ → Prop} (X : Cx Γ cX5_closeAhead 4 RX5 2) (Y : Rt Γ (Pv Q) (Option.none : Option Jvm.ClassFile.FieldType))  (hk121 : ∀ (I : MI) (J : MJ), k121 I J → Wp Γ 4 121 [] [] I J) : ∀ (n : Nat) (x1 : Int32) (I : MI) (J : MJ), f_Pupil_closeAhead_L2 k121 n x1 I J → Wp Γ 4 2 [(0, .ref (ad Γ 37)), (1, .int x1)] [] I J := by
  intro n
  induction n with
  | zero => intro x1 I J h; exact absurd h (by simp [f_Pupil_closeAhead_L2])
  | succ n ih =>
  intro x1 I J h
  unfold f_Pupil_closeAhead_L2 at h
  refine wp_iload_n X dX5_closeAhead_2 1 rfl ?_
  refine wp_aload_n X dX5_closeAhead_3 0 rfl ?_
  refine gf_X5_47 X sh_37 dX5_closeAhead_4 ?_
  refine wp_icmp_ge (tgt := 121) X dX5_closeAhead_7 (by decide) (fun hc => ?_) (fun hc => ?_)
  · have h := ite_t h hc
    refine wp_sub X [] rfl ?_
    exact hk121 _ _ h
  · have h := ite_f h hc
    refine wp_iload_n X dX5_closeAhead_10 1 rfl ?_
    refine wp_bipush X dX5_closeAhead_11 bi_14 ?_
    refine wp_icmp_ge (tgt := 121) X dX5_closeAhead_13 (by decide) (fun hc => ?_) (fun hc => ?_)
    · have h := ite_t h hc
      refine wp_sub X [] rfl ?_
      exact hk121 _ _ h
    · have h := ite_f h hc
      refine wp_iconst X dX5_closeAhead_16 ic_0 ?_
      refine wp_istore_n (L' := [(2, .int 0), (0, .ref (ad Γ 37)), (1, .int x1)]) X dX5_closeAhead_17 rfl (by decide) rfl ?_
      obtain ⟨n, h⟩ := h
      refine wp_sub X [1, 2, 0] rfl ?_
      refine w_Pupil_closeAhead_L18 X Y  ?_ n _ _ _ h
      · intro I J h
        obtain ⟨t115, et115⟩ : ∃ y : Int32, y = x1 + 1 := ⟨_, rfl⟩
        have h := h t115 et115
        refine wp_iinc (L' := [(1, .int t115), (0, .ref (ad Γ 37))]) X dX5_closeAhead_115 1 rfl (ii_1 et115) (by decide) rfl ?_
        refine wp_goto (tgt := 2) X dX5_closeAhead_118 (by decide) ?_
        refine wp_sub X [1, 0] rfl ?_
        exact ih _ _ _ h

set_option maxRecDepth 100000 in
set_option maxHeartbeats 4000000 in
theorem w_Pupil_closeAhead_b0 {Γ : Ctx} {Q : MI → MJ → Prop}   (X : Cx Γ cX5_closeAhead 4 RX5 2) (Y : Rt Γ (Pv Q) (Option.none : Option Jvm.ClassFile.FieldType))   {I : MI} {J : MJ} (h : f_Pupil_closeAhead  I J Q) : Wp Γ 4 0 [(0, .ref (ad Γ 37))] [] I J := by
  unfold f_Pupil_closeAhead at h
  refine wp_iconst X dX5_closeAhead_0 ic_0 ?_
  refine wp_istore_n (L' := [(1, .int 0), (0, .ref (ad Γ 37))]) X dX5_closeAhead_1 rfl (by decide) rfl ?_
  obtain ⟨n, h⟩ := h
  refine wp_sub X [1, 0] rfl ?_
  refine w_Pupil_closeAhead_L2 X Y  ?_ n _ _ _ h
  · intro I J h
    exact wp_vret X Y dX5_closeAhead_121 ⟨rfl, h⟩

theorem c_Pupil_closeAhead {l : Launch} {g : GE} (hg : Inj g) {I : MI} {J : MJ} {Q : MI → MJ → Prop}   (h : f_Pupil_closeAhead  I J Q) : Cm l g yX5_closeAhead cX5_closeAhead 4 (Option.none : Option Jvm.ClassFile.FieldType) 2 [.ref (g.1 37)] I J (Pv Q) := by
  refine Cm.of (As := fun ad => [.ref (ad 37)]) hg pn_X5 (Nat.le_of_ble_eq_true rfl) ?_
  exact (fun Γ _ _ X Y => w_Pupil_closeAhead_b0 X Y  h)
theorem cv_Pupil_closeAhead {Γ : Ctx} {cc : ByteArray} {nL d pc index : Nat} {own : String} {L : List (Nat × Value)} {rest : List Value} {I : MI} {J : MJ} {Q : MI → MJ → Prop}  (X : Cx Γ cc nL own d) (hd : decode cc pc = .ok (.invokevirtual index, 3)) (hlink : Cond.methodLink own index yX5_closeAhead ∈ TT)  (h : f_Pupil_closeAhead  I J Q) (hrest : (rest.map fun v => v.category).sum ≤ 8) (hdd : 2 + 1 ≤ d) (kk : ∀ (I' : MI) (J' : MJ), Q I' J' → Wp Γ nL (pc + 3) L rest I' J') : Wp Γ nL pc L (.ref (ad Γ 37) :: rest) I J :=
  wp_callV (As := []) (rest := rest) (T := TX5) (N := 12) X hd hlink mv_X5_closeAhead sh_37 (by decide) rfl (c_Pupil_closeAhead X.inj  h) rfl rfl hrest hdd (fun v I' J' hv => by obtain ⟨rfl, hq⟩ := hv; exact kk I' J' hq)
theorem dX5_makeGuess_0 : decode cX5_makeGuess 0 = .ok (.aload_n 0, 1) := by decide +kernel
theorem dX5_makeGuess_1 : decode cX5_makeGuess 1 = .ok (.getfield 18, 3) := by decide +kernel
theorem dX5_makeGuess_4 : decode cX5_makeGuess 4 = .ok (.iconst 2, 1) := by decide +kernel
theorem dX5_makeGuess_5 : decode cX5_makeGuess 5 = .ok (.aload_n 0, 1) := by decide +kernel
theorem dX5_makeGuess_6 : decode cX5_makeGuess 6 = .ok (.getfield 47, 3) := by decide +kernel
theorem dX5_makeGuess_9 : decode cX5_makeGuess 9 = .ok (.aload_n 0, 1) := by decide +kernel
theorem dX5_makeGuess_10 : decode cX5_makeGuess 10 = .ok (.getfield 12, 3) := by decide +kernel
theorem dX5_makeGuess_13 : decode cX5_makeGuess 13 = .ok (.getfield 84, 3) := by decide +kernel
theorem dX5_makeGuess_16 : decode cX5_makeGuess 16 = .ok (.invokevirtual 100, 3) := by decide +kernel
theorem dX5_makeGuess_19 : decode cX5_makeGuess 19 = .ok (.iconst 0, 1) := by decide +kernel
theorem dX5_makeGuess_20 : decode cX5_makeGuess 20 = .ok (.istore_n 1, 1) := by decide +kernel
theorem dX5_makeGuess_21 : decode cX5_makeGuess 21 = .ok (.iload_n 1, 1) := by decide +kernel
theorem dX5_makeGuess_22 : decode cX5_makeGuess 22 = .ok (.aload_n 0, 1) := by decide +kernel
theorem dX5_makeGuess_23 : decode cX5_makeGuess 23 = .ok (.getfield 47, 3) := by decide +kernel
theorem dX5_makeGuess_26 : decode cX5_makeGuess 26 = .ok (.if_icmp .ge 93, 3) := by decide +kernel
theorem dX5_makeGuess_29 : decode cX5_makeGuess 29 = .ok (.aload_n 0, 1) := by decide +kernel
theorem dX5_makeGuess_30 : decode cX5_makeGuess 30 = .ok (.getfield 18, 3) := by decide +kernel
theorem dX5_makeGuess_33 : decode cX5_makeGuess 33 = .ok (.getfield 104, 3) := by decide +kernel
theorem dX5_makeGuess_36 : decode cX5_makeGuess 36 = .ok (.iload_n 1, 1) := by decide +kernel
theorem dX5_makeGuess_37 : decode cX5_makeGuess 37 = .ok (.aload_n 0, 1) := by decide +kernel
theorem dX5_makeGuess_38 : decode cX5_makeGuess 38 = .ok (.getfield 12, 3) := by decide +kernel
theorem dX5_makeGuess_41 : decode cX5_makeGuess 41 = .ok (.getfield 104, 3) := by decide +kernel
theorem dX5_makeGuess_44 : decode cX5_makeGuess 44 = .ok (.aload_n 0, 1) := by decide +kernel
theorem dX5_makeGuess_45 : decode cX5_makeGuess 45 = .ok (.getfield 28, 3) := by decide +kernel
theorem dX5_makeGuess_48 : decode cX5_makeGuess 48 = .ok (.iload_n 1, 1) := by decide +kernel
theorem dX5_makeGuess_49 : decode cX5_makeGuess 49 = .ok (.iaload, 1) := by decide +kernel
theorem dX5_makeGuess_50 : decode cX5_makeGuess 50 = .ok (.iaload, 1) := by decide +kernel
theorem dX5_makeGuess_51 : decode cX5_makeGuess 51 = .ok (.iastore, 1) := by decide +kernel
theorem dX5_makeGuess_52 : decode cX5_makeGuess 52 = .ok (.iconst 0, 1) := by decide +kernel
theorem dX5_makeGuess_53 : decode cX5_makeGuess 53 = .ok (.istore_n 2, 1) := by decide +kernel
theorem dX5_makeGuess_54 : decode cX5_makeGuess 54 = .ok (.iload_n 2, 1) := by decide +kernel
theorem dX5_makeGuess_55 : decode cX5_makeGuess 55 = .ok (.aload_n 0, 1) := by decide +kernel
theorem dX5_makeGuess_56 : decode cX5_makeGuess 56 = .ok (.getfield 12, 3) := by decide +kernel
theorem dX5_makeGuess_59 : decode cX5_makeGuess 59 = .ok (.getfield 84, 3) := by decide +kernel
theorem dX5_makeGuess_62 : decode cX5_makeGuess 62 = .ok (.if_icmp .ge 51, 3) := by decide +kernel
theorem dX5_makeGuess_65 : decode cX5_makeGuess 65 = .ok (.aload_n 0, 1) := by decide +kernel
theorem dX5_makeGuess_66 : decode cX5_makeGuess 66 = .ok (.getfield 12, 3) := by decide +kernel
theorem dX5_makeGuess_69 : decode cX5_makeGuess 69 = .ok (.aload_n 0, 1) := by decide +kernel
theorem dX5_makeGuess_70 : decode cX5_makeGuess 70 = .ok (.getfield 28, 3) := by decide +kernel
theorem dX5_makeGuess_73 : decode cX5_makeGuess 73 = .ok (.iload_n 1, 1) := by decide +kernel
theorem dX5_makeGuess_74 : decode cX5_makeGuess 74 = .ok (.iaload, 1) := by decide +kernel
theorem dX5_makeGuess_75 : decode cX5_makeGuess 75 = .ok (.iload_n 2, 1) := by decide +kernel
theorem dX5_makeGuess_76 : decode cX5_makeGuess 76 = .ok (.invokevirtual 87, 3) := by decide +kernel
theorem dX5_makeGuess_79 : decode cX5_makeGuess 79 = .ok (.istore_n 3, 1) := by decide +kernel
theorem dX5_makeGuess_80 : decode cX5_makeGuess 80 = .ok (.aload_n 0, 1) := by decide +kernel
theorem dX5_makeGuess_81 : decode cX5_makeGuess 81 = .ok (.getfield 18, 3) := by decide +kernel
theorem dX5_makeGuess_84 : decode cX5_makeGuess 84 = .ok (.getfield 107, 3) := by decide +kernel
theorem dX5_makeGuess_87 : decode cX5_makeGuess 87 = .ok (.iload_n 1, 1) := by decide +kernel
theorem dX5_makeGuess_88 : decode cX5_makeGuess 88 = .ok (.iconst 4, 1) := by decide +kernel
theorem dX5_makeGuess_89 : decode cX5_makeGuess 89 = .ok (.imul, 1) := by decide +kernel
theorem dX5_makeGuess_90 : decode cX5_makeGuess 90 = .ok (.iload_n 2, 1) := by decide +kernel
theorem dX5_makeGuess_91 : decode cX5_makeGuess 91 = .ok (.iadd, 1) := by decide +kernel
theorem dX5_makeGuess_92 : decode cX5_makeGuess 92 = .ok (.iload_n 3, 1) := by decide +kernel
theorem dX5_makeGuess_93 : decode cX5_makeGuess 93 = .ok (.iconst (-1), 1) := by decide +kernel
theorem dX5_makeGuess_94 : decode cX5_makeGuess 94 = .ok (.if_icmp .ne 7, 3) := by decide +kernel
theorem dX5_makeGuess_97 : decode cX5_makeGuess 97 = .ok (.iconst (-1), 1) := by decide +kernel
theorem dX5_makeGuess_98 : decode cX5_makeGuess 98 = .ok (.goto 8, 3) := by decide +kernel
theorem dX5_makeGuess_101 : decode cX5_makeGuess 101 = .ok (.aload_n 0, 1) := by decide +kernel
theorem dX5_makeGuess_102 : decode cX5_makeGuess 102 = .ok (.iload_n 3, 1) := by decide +kernel
theorem dX5_makeGuess_103 : decode cX5_makeGuess 103 = .ok (.invokevirtual 91, 3) := by decide +kernel
theorem dX5_makeGuess_106 : decode cX5_makeGuess 106 = .ok (.iastore, 1) := by decide +kernel
theorem dX5_makeGuess_107 : decode cX5_makeGuess 107 = .ok (.iinc 2 1, 3) := by decide +kernel
theorem dX5_makeGuess_110 : decode cX5_makeGuess 110 = .ok (.goto (-56), 3) := by decide +kernel
theorem dX5_makeGuess_113 : decode cX5_makeGuess 113 = .ok (.iinc 1 1, 3) := by decide +kernel
theorem dX5_makeGuess_116 : decode cX5_makeGuess 116 = .ok (.goto (-95), 3) := by decide +kernel
theorem dX5_makeGuess_119 : decode cX5_makeGuess 119 = .ok (.aload_n 0, 1) := by decide +kernel
theorem dX5_makeGuess_120 : decode cX5_makeGuess 120 = .ok (.getfield 18, 3) := by decide +kernel
theorem dX5_makeGuess_123 : decode cX5_makeGuess 123 = .ok (.invokevirtual 110, 3) := by decide +kernel
theorem dX5_makeGuess_126 : decode cX5_makeGuess 126 = .ok (.aload_n 0, 1) := by decide +kernel
theorem dX5_makeGuess_127 : decode cX5_makeGuess 127 = .ok (.dup, 1) := by decide +kernel
theorem dX5_makeGuess_128 : decode cX5_makeGuess 128 = .ok (.getfield 53, 3) := by decide +kernel
theorem dX5_makeGuess_131 : decode cX5_makeGuess 131 = .ok (.iconst 1, 1) := by decide +kernel
theorem dX5_makeGuess_132 : decode cX5_makeGuess 132 = .ok (.iadd, 1) := by decide +kernel
theorem dX5_makeGuess_133 : decode cX5_makeGuess 133 = .ok (.putfield 53, 3) := by decide +kernel
theorem dX5_makeGuess_136 : decode cX5_makeGuess 136 = .ok (.return_, 1) := by decide +kernel
def f_Pupil_makeGuess_b106 (x2 : Int32) (s1 : Int32) (s2 : Int32) (kh : Int32 → MI → MJ → Prop) (I : MI) (J : MJ) : Prop :=
  vp_in s1 56 ∧ ∀ I106 : MI, I106 = sI I 45 (upd (I 45) s1.toNatClampNeg s2) → ∀ t107 : Int32, t107 = x2 + 1 → kh t107 I106 J
def f_Pupil_makeGuess_L54 (x1 : Int32) (k113 : MI → MJ → Prop) : Nat → Int32 → MI → MJ → Prop
  | 0, _, _, _ => False
  | nf54 + 1, x2, I, J =>
  (if (I 38 2) ≤ x2 then k113 I J else vp_in x1 14 ∧ f_Machine_leadOf 38 (I 50 x1.toNatClampNeg) x2 I J (fun r76 I76 J76 => (if r76 = (-1) then f_Pupil_makeGuess_b106 x2 ((x1 * 4) + x2) (-1) (f_Pupil_makeGuess_L54 x1 k113 nf54) I76 J76 else f_Pupil_aheadLike r76 I76 J76 (fun r103 I103 J103 => f_Pupil_makeGuess_b106 x2 ((x1 * 4) + x2) r103 (f_Pupil_makeGuess_L54 x1 k113 nf54) I103 J103))))
def f_Pupil_makeGuess_L21 (k119 : MI → MJ → Prop) : Nat → Int32 → MI → MJ → Prop
  | 0, _, _, _ => False
  | nf21 + 1, x1, I, J =>
  (if (I 37 2) ≤ x1 then k119 I J else vp_in x1 14 ∧ vp_in (I 50 x1.toNatClampNeg) 14 ∧ vp_in x1 14 ∧ ∀ I51 : MI, I51 = sI I 47 (upd (I 47) x1.toNatClampNeg (I 42 (I 50 x1.toNatClampNeg).toNatClampNeg)) → ∃ n, f_Pupil_makeGuess_L54 x1 (fun (I : MI) (J : MJ) => ∀ t113 : Int32, t113 = x1 + 1 → f_Pupil_makeGuess_L21 k119 nf21 t113 I J) n 0 I51 J)
def f_Pupil_makeGuess (I : MI) (J : MJ) (Q : MI → MJ → Prop) : Prop :=
  f_Machine_begin 43 (2 : Int32) (I 37 2) (I 38 2) I J (fun I16 J16 => ∃ n, f_Pupil_makeGuess_L21 (fun (I : MI) (J : MJ) => f_Machine_settleKind 43 I J (fun I123 J123 => ∀ I133 : MI, I133 = sI I123 37 (upd (I123 37) 4 ((I123 37 4) + 1)) → Q I133 J123)) n 0 I16 J16)
set_option maxRecDepth 100000 in
set_option maxHeartbeats 4000000 in
theorem w_Pupil_makeGuess_b106 {Γ : Ctx} {Q : MI → MJ → Prop} {x1 : Int32} {x2 : Int32} {s1 : Int32} {s2 : Int32} {kh : Int32 → MI → MJ → Prop} (X : Cx Γ cX5_makeGuess 4 RX5 3) (Y : Rt Γ (Pv Q) (Option.none : Option Jvm.ClassFile.FieldType))  (hkh : ∀ (x2 : Int32) (I : MI) (J : MJ), kh x2 I J → Wp Γ 4 54 [(0, .ref (ad Γ 37)), (1, .int x1), (2, .int x2)] [] I J) {I : MI} {J : MJ} (h : f_Pupil_makeGuess_b106 x2 s1 s2 kh I J) : Wp Γ 4 106 [(0, .ref (ad Γ 37)), (1, .int x1), (2, .int x2)] [.int s2, .int s1, .ref (ad Γ 45)] I J := by
  unfold f_Pupil_makeGuess_b106 at h
  obtain ⟨hb106, h⟩ := h
  refine wp_iast X sh_45 hb106 dX5_makeGuess_106 ?_
  refine wp_memI (fun I106 eI106 => ?_)
  have h := h I106 eI106
  obtain ⟨t107, et107⟩ : ∃ y : Int32, y = x2 + 1 := ⟨_, rfl⟩
  have h := h t107 et107
  refine wp_iinc (L' := [(2, .int t107), (0, .ref (ad Γ 37)), (1, .int x1)]) X dX5_makeGuess_107 2 rfl (ii_1 et107) (by decide) rfl ?_
  refine wp_goto (tgt := 54) X dX5_makeGuess_110 (by decide) ?_
  refine wp_sub X [1, 2, 0] rfl ?_
  exact hkh _ _ _ h

set_option maxRecDepth 100000 in
set_option maxHeartbeats 4000000 in
theorem w_Pupil_makeGuess_L54 {Γ : Ctx} {Q : MI → MJ → Prop} {x1 : Int32} {k113 : MI → MJ → Prop} (X : Cx Γ cX5_makeGuess 4 RX5 3) (Y : Rt Γ (Pv Q) (Option.none : Option Jvm.ClassFile.FieldType))  (hk113 : ∀ (I : MI) (J : MJ), k113 I J → Wp Γ 4 113 [(0, .ref (ad Γ 37)), (1, .int x1)] [] I J) : ∀ (n : Nat) (x2 : Int32) (I : MI) (J : MJ), f_Pupil_makeGuess_L54 x1 k113 n x2 I J → Wp Γ 4 54 [(0, .ref (ad Γ 37)), (1, .int x1), (2, .int x2)] [] I J := by
  intro n
  induction n with
  | zero => intro x2 I J h; exact absurd h (by simp [f_Pupil_makeGuess_L54])
  | succ n ih =>
  intro x2 I J h
  unfold f_Pupil_makeGuess_L54 at h
  refine wp_iload_n X dX5_makeGuess_54 2 rfl ?_
  refine wp_aload_n X dX5_makeGuess_55 0 rfl ?_
  refine gf_X5_12 (o' := 38) X sh_37 rfl dX5_makeGuess_56 ?_
  refine gf_X5_84 X okM_38.1 dX5_makeGuess_59 ?_
  refine wp_icmp_ge (tgt := 113) X dX5_makeGuess_62 (by decide) (fun hc => ?_) (fun hc => ?_)
  · have h := ite_t h hc
    refine wp_sub X [0, 1] rfl ?_
    exact hk113 _ _ h
  · have h := ite_f h hc
    refine wp_aload_n X dX5_makeGuess_65 0 rfl ?_
    refine gf_X5_12 (o' := 38) X sh_37 rfl dX5_makeGuess_66 ?_
    refine wp_aload_n X dX5_makeGuess_69 0 rfl ?_
    refine gf_X5_28 (o' := 50) X sh_37 rfl dX5_makeGuess_70 ?_
    refine wp_iload_n X dX5_makeGuess_73 1 rfl ?_
    obtain ⟨hb74, h⟩ := h
    refine wp_iald X sh_50 hb74 dX5_makeGuess_74 ?_
    refine wp_iload_n X dX5_makeGuess_75 2 rfl ?_
    refine cv_Machine_leadOf X dX5_makeGuess_76 ml_X5_87 okM_38 h (Nat.le_of_ble_eq_true rfl) (by decide) (fun r76 I76 J76 h => ?_)
    refine wp_istore_n (L' := [(3, .int r76), (0, .ref (ad Γ 37)), (1, .int x1), (2, .int x2)]) X dX5_makeGuess_79 rfl (by decide) rfl ?_
    refine wp_aload_n X dX5_makeGuess_80 1 rfl ?_
    refine gf_X5_18 (o' := 43) X sh_37 rfl dX5_makeGuess_81 ?_
    refine gf_X5_107 (o' := 45) X okM_43.1 rfl dX5_makeGuess_84 ?_
    refine wp_iload_n X dX5_makeGuess_87 2 rfl ?_
    refine wp_iconst X dX5_makeGuess_88 ic_4 ?_
    refine wp_imul X dX5_makeGuess_89 ?_
    refine wp_iload_n X dX5_makeGuess_90 3 rfl ?_
    refine wp_iadd X dX5_makeGuess_91 ?_
    refine wp_iload_n X dX5_makeGuess_92 0 rfl ?_
    refine wp_iconst X dX5_makeGuess_93 ic_m1 ?_
    refine wp_icmp_ne (tgt := 101) X dX5_makeGuess_94 (by decide) (fun hc => ?_) (fun hc => ?_)
    · have h := ite_f h hc
      refine wp_aload_n X dX5_makeGuess_101 1 rfl ?_
      refine wp_iload_n X dX5_makeGuess_102 0 rfl ?_
      refine cv_Pupil_aheadLike X dX5_makeGuess_103 ml_X5_91  h (Nat.le_of_ble_eq_true rfl) (by decide) (fun r103 I103 J103 h => ?_)
      refine wp_sub X [1, 2, 3] rfl ?_
      exact w_Pupil_makeGuess_b106 X Y ih h
    · have h := ite_t h hc
      refine wp_iconst X dX5_makeGuess_97 ic_m1 ?_
      refine wp_goto (tgt := 106) X dX5_makeGuess_98 (by decide) ?_
      refine wp_sub X [1, 2, 3] rfl ?_
      exact w_Pupil_makeGuess_b106 X Y ih h

set_option maxRecDepth 100000 in
set_option maxHeartbeats 4000000 in
theorem w_Pupil_makeGuess_L21 {Γ : Ctx} {Q : MI → MJ → Prop}  {k119 : MI → MJ → Prop} (X : Cx Γ cX5_makeGuess 4 RX5 3) (Y : Rt Γ (Pv Q) (Option.none : Option Jvm.ClassFile.FieldType))  (hk119 : ∀ (I : MI) (J : MJ), k119 I J → Wp Γ 4 119 [(0, .ref (ad Γ 37))] [] I J) : ∀ (n : Nat) (x1 : Int32) (I : MI) (J : MJ), f_Pupil_makeGuess_L21 k119 n x1 I J → Wp Γ 4 21 [(0, .ref (ad Γ 37)), (1, .int x1)] [] I J := by
  intro n
  induction n with
  | zero => intro x1 I J h; exact absurd h (by simp [f_Pupil_makeGuess_L21])
  | succ n ih =>
  intro x1 I J h
  unfold f_Pupil_makeGuess_L21 at h
  refine wp_iload_n X dX5_makeGuess_21 1 rfl ?_
  refine wp_aload_n X dX5_makeGuess_22 0 rfl ?_
  refine gf_X5_47 X sh_37 dX5_makeGuess_23 ?_
  refine wp_icmp_ge (tgt := 119) X dX5_makeGuess_26 (by decide) (fun hc => ?_) (fun hc => ?_)
  · have h := ite_t h hc
    refine wp_sub X [0] rfl ?_
    exact hk119 _ _ h
  · have h := ite_f h hc
    refine wp_aload_n X dX5_makeGuess_29 0 rfl ?_
    refine gf_X5_18 (o' := 43) X sh_37 rfl dX5_makeGuess_30 ?_
    refine gf_X5_104 (o' := 47) X okM_43.1 rfl dX5_makeGuess_33 ?_
    refine wp_iload_n X dX5_makeGuess_36 1 rfl ?_
    refine wp_aload_n X dX5_makeGuess_37 0 rfl ?_
    refine gf_X5_12 (o' := 38) X sh_37 rfl dX5_makeGuess_38 ?_
    refine gf_X5_104 (o' := 42) X okM_38.1 rfl dX5_makeGuess_41 ?_
    refine wp_aload_n X dX5_makeGuess_44 0 rfl ?_
    refine gf_X5_28 (o' := 50) X sh_37 rfl dX5_makeGuess_45 ?_
    refine wp_iload_n X dX5_makeGuess_48 1 rfl ?_
    obtain ⟨hb49, h⟩ := h
    refine wp_iald X sh_50 hb49 dX5_makeGuess_49 ?_
    obtain ⟨hb50, h⟩ := h
    refine wp_iald X sh_42 hb50 dX5_makeGuess_50 ?_
    obtain ⟨hb51, h⟩ := h
    refine wp_iast X sh_47 hb51 dX5_makeGuess_51 ?_
    refine wp_memI (fun I51 eI51 => ?_)
    have h := h I51 eI51
    refine wp_iconst X dX5_makeGuess_52 ic_0 ?_
    refine wp_istore_n (L' := [(2, .int 0), (0, .ref (ad Γ 37)), (1, .int x1)]) X dX5_makeGuess_53 rfl (by decide) rfl ?_
    obtain ⟨n, h⟩ := h
    refine wp_sub X [1, 2, 0] rfl ?_
    refine w_Pupil_makeGuess_L54 X Y  ?_ n _ _ _ h
    · intro I J h
      obtain ⟨t113, et113⟩ : ∃ y : Int32, y = x1 + 1 := ⟨_, rfl⟩
      have h := h t113 et113
      refine wp_iinc (L' := [(1, .int t113), (0, .ref (ad Γ 37))]) X dX5_makeGuess_113 1 rfl (ii_1 et113) (by decide) rfl ?_
      refine wp_goto (tgt := 21) X dX5_makeGuess_116 (by decide) ?_
      refine wp_sub X [1, 0] rfl ?_
      exact ih _ _ _ h

set_option maxRecDepth 100000 in
set_option maxHeartbeats 4000000 in
theorem w_Pupil_makeGuess_b0 {Γ : Ctx} {Q : MI → MJ → Prop}   (X : Cx Γ cX5_makeGuess 4 RX5 3) (Y : Rt Γ (Pv Q) (Option.none : Option Jvm.ClassFile.FieldType))   {I : MI} {J : MJ} (h : f_Pupil_makeGuess  I J Q) : Wp Γ 4 0 [(0, .ref (ad Γ 37))] [] I J := by
  unfold f_Pupil_makeGuess at h
  refine wp_aload_n X dX5_makeGuess_0 0 rfl ?_
  refine gf_X5_18 (o' := 43) X sh_37 rfl dX5_makeGuess_1 ?_
  refine wp_iconst X dX5_makeGuess_4 ic_2 ?_
  refine wp_aload_n X dX5_makeGuess_5 0 rfl ?_
  refine gf_X5_47 X sh_37 dX5_makeGuess_6 ?_
  refine wp_aload_n X dX5_makeGuess_9 0 rfl ?_
  refine gf_X5_12 (o' := 38) X sh_37 rfl dX5_makeGuess_10 ?_
  refine gf_X5_84 X okM_38.1 dX5_makeGuess_13 ?_
  refine cv_Machine_begin X dX5_makeGuess_16 ml_X5_100 okM_43 h (Nat.le_of_ble_eq_true rfl) (by decide) (fun I16 J16 h => ?_)
  refine wp_iconst X dX5_makeGuess_19 ic_0 ?_
  refine wp_istore_n (L' := [(1, .int 0), (0, .ref (ad Γ 37))]) X dX5_makeGuess_20 rfl (by decide) rfl ?_
  obtain ⟨n, h⟩ := h
  refine wp_sub X [1, 0] rfl ?_
  refine w_Pupil_makeGuess_L21 X Y  ?_ n _ _ _ h
  · intro I J h
    refine wp_aload_n X dX5_makeGuess_119 0 rfl ?_
    refine gf_X5_18 (o' := 43) X sh_37 rfl dX5_makeGuess_120 ?_
    refine cv_Machine_settleKind X dX5_makeGuess_123 ml_X5_110 okM_43 h (Nat.le_of_ble_eq_true rfl) (by decide) (fun I123 J123 h => ?_)
    refine wp_aload_n X dX5_makeGuess_126 0 rfl ?_
    refine wp_dup X dX5_makeGuess_127 rfl ?_
    refine gf_X5_53 X sh_37 dX5_makeGuess_128 ?_
    refine wp_iconst X dX5_makeGuess_131 ic_1 ?_
    refine wp_iadd X dX5_makeGuess_132 ?_
    refine pf_X5_53 X sh_37 dX5_makeGuess_133 (fun I133 eI133 => ?_)
    have h := h I133 eI133
    exact wp_vret X Y dX5_makeGuess_136 ⟨rfl, h⟩

theorem c_Pupil_makeGuess {l : Launch} {g : GE} (hg : Inj g) {I : MI} {J : MJ} {Q : MI → MJ → Prop}   (h : f_Pupil_makeGuess  I J Q) : Cm l g yX5_makeGuess cX5_makeGuess 4 (Option.none : Option Jvm.ClassFile.FieldType) 3 [.ref (g.1 37)] I J (Pv Q) := by
  refine Cm.of (As := fun ad => [.ref (ad 37)]) hg pn_X5 (Nat.le_of_ble_eq_true rfl) ?_
  exact (fun Γ _ _ X Y => w_Pupil_makeGuess_b0 X Y  h)
theorem cv_Pupil_makeGuess {Γ : Ctx} {cc : ByteArray} {nL d pc index : Nat} {own : String} {L : List (Nat × Value)} {rest : List Value} {I : MI} {J : MJ} {Q : MI → MJ → Prop}  (X : Cx Γ cc nL own d) (hd : decode cc pc = .ok (.invokevirtual index, 3)) (hlink : Cond.methodLink own index yX5_makeGuess ∈ TT)  (h : f_Pupil_makeGuess  I J Q) (hrest : (rest.map fun v => v.category).sum ≤ 8) (hdd : 3 + 1 ≤ d) (kk : ∀ (I' : MI) (J' : MJ), Q I' J' → Wp Γ nL (pc + 3) L rest I' J') : Wp Γ nL pc L (.ref (ad Γ 37) :: rest) I J :=
  wp_callV (As := []) (rest := rest) (T := TX5) (N := 12) X hd hlink mv_X5_makeGuess sh_37 (by decide) rfl (c_Pupil_makeGuess X.inj  h) rfl rfl hrest hdd (fun v I' J' hv => by obtain ⟨rfl, hq⟩ := hv; exact kk I' J' hq)
theorem dX5_beginAnew_0 : decode cX5_beginAnew 0 = .ok (.aload_n 0, 1) := by decide +kernel
theorem dX5_beginAnew_1 : decode cX5_beginAnew 1 = .ok (.iconst 1, 1) := by decide +kernel
theorem dX5_beginAnew_2 : decode cX5_beginAnew 2 = .ok (.putfield 35, 3) := by decide +kernel
theorem dX5_beginAnew_5 : decode cX5_beginAnew 5 = .ok (.aload_n 0, 1) := by decide +kernel
theorem dX5_beginAnew_6 : decode cX5_beginAnew 6 = .ok (.getfield 12, 3) := by decide +kernel
theorem dX5_beginAnew_9 : decode cX5_beginAnew 9 = .ok (.aload_n 1, 1) := by decide +kernel
theorem dX5_beginAnew_10 : decode cX5_beginAnew 10 = .ok (.invokevirtual 39, 3) := by decide +kernel
theorem dX5_beginAnew_13 : decode cX5_beginAnew 13 = .ok (.aload_n 0, 1) := by decide +kernel
theorem dX5_beginAnew_14 : decode cX5_beginAnew 14 = .ok (.iload_n 2, 1) := by decide +kernel
theorem dX5_beginAnew_15 : decode cX5_beginAnew 15 = .ok (.putfield 43, 3) := by decide +kernel
theorem dX5_beginAnew_18 : decode cX5_beginAnew 18 = .ok (.aload_n 0, 1) := by decide +kernel
theorem dX5_beginAnew_19 : decode cX5_beginAnew 19 = .ok (.getfield 21, 3) := by decide +kernel
theorem dX5_beginAnew_22 : decode cX5_beginAnew 22 = .ok (.iconst 0, 1) := by decide +kernel
theorem dX5_beginAnew_23 : decode cX5_beginAnew 23 = .ok (.lconst 1, 1) := by decide +kernel
theorem dX5_beginAnew_24 : decode cX5_beginAnew 24 = .ok (.lastore, 1) := by decide +kernel
theorem dX5_beginAnew_25 : decode cX5_beginAnew 25 = .ok (.aload_n 0, 1) := by decide +kernel
theorem dX5_beginAnew_26 : decode cX5_beginAnew 26 = .ok (.getfield 28, 3) := by decide +kernel
theorem dX5_beginAnew_29 : decode cX5_beginAnew 29 = .ok (.iconst 0, 1) := by decide +kernel
theorem dX5_beginAnew_30 : decode cX5_beginAnew 30 = .ok (.iconst 0, 1) := by decide +kernel
theorem dX5_beginAnew_31 : decode cX5_beginAnew 31 = .ok (.iastore, 1) := by decide +kernel
theorem dX5_beginAnew_32 : decode cX5_beginAnew 32 = .ok (.aload_n 0, 1) := by decide +kernel
theorem dX5_beginAnew_33 : decode cX5_beginAnew 33 = .ok (.iconst 1, 1) := by decide +kernel
theorem dX5_beginAnew_34 : decode cX5_beginAnew 34 = .ok (.putfield 47, 3) := by decide +kernel
theorem dX5_beginAnew_37 : decode cX5_beginAnew 37 = .ok (.aload_n 0, 1) := by decide +kernel
theorem dX5_beginAnew_38 : decode cX5_beginAnew 38 = .ok (.iconst 0, 1) := by decide +kernel
theorem dX5_beginAnew_39 : decode cX5_beginAnew 39 = .ok (.putfield 50, 3) := by decide +kernel
theorem dX5_beginAnew_42 : decode cX5_beginAnew 42 = .ok (.aload_n 0, 1) := by decide +kernel
theorem dX5_beginAnew_43 : decode cX5_beginAnew 43 = .ok (.iconst 0, 1) := by decide +kernel
theorem dX5_beginAnew_44 : decode cX5_beginAnew 44 = .ok (.putfield 53, 3) := by decide +kernel
theorem dX5_beginAnew_47 : decode cX5_beginAnew 47 = .ok (.aload_n 0, 1) := by decide +kernel
theorem dX5_beginAnew_48 : decode cX5_beginAnew 48 = .ok (.lconst 0, 1) := by decide +kernel
theorem dX5_beginAnew_49 : decode cX5_beginAnew 49 = .ok (.putfield 56, 3) := by decide +kernel
theorem dX5_beginAnew_52 : decode cX5_beginAnew 52 = .ok (.aload_n 0, 1) := by decide +kernel
theorem dX5_beginAnew_53 : decode cX5_beginAnew 53 = .ok (.lconst 1, 1) := by decide +kernel
theorem dX5_beginAnew_54 : decode cX5_beginAnew 54 = .ok (.invokevirtual 60, 3) := by decide +kernel
theorem dX5_beginAnew_57 : decode cX5_beginAnew 57 = .ok (.aload_n 0, 1) := by decide +kernel
theorem dX5_beginAnew_58 : decode cX5_beginAnew 58 = .ok (.invokevirtual 64, 3) := by decide +kernel
theorem dX5_beginAnew_61 : decode cX5_beginAnew 61 = .ok (.aload_n 0, 1) := by decide +kernel
theorem dX5_beginAnew_62 : decode cX5_beginAnew 62 = .ok (.invokevirtual 67, 3) := by decide +kernel
theorem dX5_beginAnew_65 : decode cX5_beginAnew 65 = .ok (.return_, 1) := by decide +kernel
def f_Pupil_beginAnew (x1 : Nat) (x2 : Int32) (I : MI) (J : MJ) (Q : MI → MJ → Prop) : Prop :=
  ∀ I2 : MI, I2 = sI I 37 (upd (I 37) 0 1) → f_Machine_become 38 x1 I2 J (fun I10 J10 => ∀ I15 : MI, I15 = sI I10 37 (upd (I10 37) 1 x2) → vp_in 0 14 ∧ ∀ J24 : MJ, J24 = sJ J10 48 (vp_updL (J10 48) (0 : Int32).toNatClampNeg 1) → vp_in 0 14 ∧ ∀ I31 : MI, I31 = sI I15 50 (upd (I15 50) (0 : Int32).toNatClampNeg 0) → ∀ I34 : MI, I34 = sI I31 37 (upd (I31 37) 2 1) → ∀ I39 : MI, I39 = sI I34 37 (upd (I34 37) 3 0) → ∀ I44 : MI, I44 = sI I39 37 (upd (I39 37) 4 0) → ∀ J49 : MJ, J49 = sJ J24 37 (vp_updL (J24 37) 5 0) → f_Pupil_addBehind (1 : Int64) I44 J49 (fun I54 J54 => f_Pupil_closeAhead I54 J54 (fun I58 J58 => f_Pupil_makeGuess I58 J58 (fun I62 J62 => Q I62 J62))))
set_option maxRecDepth 100000 in
set_option maxHeartbeats 4000000 in
theorem w_Pupil_beginAnew_b0 {Γ : Ctx} {Q : MI → MJ → Prop} {x1 : Nat} {x2 : Int32}  (X : Cx Γ cX5_beginAnew 3 RX5 5) (Y : Rt Γ (Pv Q) (Option.none : Option Jvm.ClassFile.FieldType)) (hx1 : okM x1)  {I : MI} {J : MJ} (h : f_Pupil_beginAnew x1 x2 I J Q) : Wp Γ 3 0 [(0, .ref (ad Γ 37)), (1, .ref (ad Γ x1)), (2, .int x2)] [] I J := by
  unfold f_Pupil_beginAnew at h
  refine wp_aload_n X dX5_beginAnew_0 0 rfl ?_
  refine wp_iconst X dX5_beginAnew_1 ic_1 ?_
  refine pf_X5_35 X sh_37 (by decide) dX5_beginAnew_2 (fun I2 eI2 => ?_)
  have h := h I2 eI2
  refine wp_aload_n X dX5_beginAnew_5 0 rfl ?_
  refine gf_X5_12 (o' := 38) X sh_37 rfl dX5_beginAnew_6 ?_
  refine wp_aload_n X dX5_beginAnew_9 1 rfl ?_
  refine cv_Machine_become X dX5_beginAnew_10 ml_X5_39 okM_38 hx1 h (Nat.le_of_ble_eq_true rfl) (by decide) (fun I10 J10 h => ?_)
  refine wp_aload_n X dX5_beginAnew_13 0 rfl ?_
  refine wp_iload_n X dX5_beginAnew_14 2 rfl ?_
  refine pf_X5_43 X sh_37 dX5_beginAnew_15 (fun I15 eI15 => ?_)
  have h := h I15 eI15
  refine wp_aload_n X dX5_beginAnew_18 0 rfl ?_
  refine gf_X5_21 (o' := 48) X sh_37 rfl dX5_beginAnew_19 ?_
  refine wp_iconst X dX5_beginAnew_22 ic_0 ?_
  refine wp_lconst X dX5_beginAnew_23 lc_1 ?_
  obtain ⟨hb24, h⟩ := h
  refine wp_last X sh_48 hb24 dX5_beginAnew_24 ?_
  refine wp_memJ (fun J24 eJ24 => ?_)
  have h := h J24 eJ24
  refine wp_aload_n X dX5_beginAnew_25 0 rfl ?_
  refine gf_X5_28 (o' := 50) X sh_37 rfl dX5_beginAnew_26 ?_
  refine wp_iconst X dX5_beginAnew_29 ic_0 ?_
  refine wp_iconst X dX5_beginAnew_30 ic_0 ?_
  obtain ⟨hb31, h⟩ := h
  refine wp_iast X sh_50 hb31 dX5_beginAnew_31 ?_
  refine wp_memI (fun I31 eI31 => ?_)
  have h := h I31 eI31
  refine wp_aload_n X dX5_beginAnew_32 0 rfl ?_
  refine wp_iconst X dX5_beginAnew_33 ic_1 ?_
  refine pf_X5_47 X sh_37 dX5_beginAnew_34 (fun I34 eI34 => ?_)
  have h := h I34 eI34
  refine wp_aload_n X dX5_beginAnew_37 0 rfl ?_
  refine wp_iconst X dX5_beginAnew_38 ic_0 ?_
  refine pf_X5_50 X sh_37 dX5_beginAnew_39 (fun I39 eI39 => ?_)
  have h := h I39 eI39
  refine wp_aload_n X dX5_beginAnew_42 0 rfl ?_
  refine wp_iconst X dX5_beginAnew_43 ic_0 ?_
  refine pf_X5_53 X sh_37 dX5_beginAnew_44 (fun I44 eI44 => ?_)
  have h := h I44 eI44
  refine wp_aload_n X dX5_beginAnew_47 0 rfl ?_
  refine wp_lconst X dX5_beginAnew_48 lc_0 ?_
  refine pf_X5_56 X sh_37 dX5_beginAnew_49 (fun J49 eJ49 => ?_)
  have h := h J49 eJ49
  refine wp_aload_n X dX5_beginAnew_52 0 rfl ?_
  refine wp_lconst X dX5_beginAnew_53 lc_1 ?_
  refine cv_Pupil_addBehind X dX5_beginAnew_54 ml_X5_60  h (Nat.le_of_ble_eq_true rfl) (by decide) (fun I54 J54 h => ?_)
  refine wp_aload_n X dX5_beginAnew_57 0 rfl ?_
  refine cv_Pupil_closeAhead X dX5_beginAnew_58 ml_X5_64  h (Nat.le_of_ble_eq_true rfl) (by decide) (fun I58 J58 h => ?_)
  refine wp_aload_n X dX5_beginAnew_61 0 rfl ?_
  refine cv_Pupil_makeGuess X dX5_beginAnew_62 ml_X5_67  h (Nat.le_of_ble_eq_true rfl) (by decide) (fun I62 J62 h => ?_)
  exact wp_vret X Y dX5_beginAnew_65 ⟨rfl, h⟩

theorem c_Pupil_beginAnew {l : Launch} {g : GE} (hg : Inj g) {I : MI} {J : MJ} {Q : MI → MJ → Prop} {x1 : Nat} {x2 : Int32} (hx1 : okM x1) (h : f_Pupil_beginAnew x1 x2 I J Q) : Cm l g yX5_beginAnew cX5_beginAnew 3 (Option.none : Option Jvm.ClassFile.FieldType) 5 [.ref (g.1 37), .ref (g.1 x1), .int x2] I J (Pv Q) := by
  refine Cm.of (As := fun ad => [.ref (ad 37), .ref (ad x1), .int x2]) hg pn_X5 (Nat.le_of_ble_eq_true rfl) ?_
  exact (fun Γ _ _ X Y => w_Pupil_beginAnew_b0 X Y hx1 h)
theorem cv_Pupil_beginAnew {Γ : Ctx} {cc : ByteArray} {nL d pc index : Nat} {own : String} {L : List (Nat × Value)} {rest : List Value} {I : MI} {J : MJ} {Q : MI → MJ → Prop} {x1 : Nat} {x2 : Int32} (X : Cx Γ cc nL own d) (hd : decode cc pc = .ok (.invokevirtual index, 3)) (hlink : Cond.methodLink own index yX5_beginAnew ∈ TT) (hx1 : okM x1) (h : f_Pupil_beginAnew x1 x2 I J Q) (hrest : (rest.map fun v => v.category).sum ≤ 8) (hdd : 5 + 1 ≤ d) (kk : ∀ (I' : MI) (J' : MJ), Q I' J' → Wp Γ nL (pc + 3) L rest I' J') : Wp Γ nL pc L (.int x2 :: .ref (ad Γ x1) :: .ref (ad Γ 37) :: rest) I J :=
  wp_callV (As := [.ref (ad Γ x1), .int x2]) (rest := rest) (T := TX5) (N := 12) X hd hlink mv_X5_beginAnew sh_37 (by decide) rfl (c_Pupil_beginAnew X.inj hx1 h) rfl rfl hrest hdd (fun v I' J' hv => by obtain ⟨rfl, hq⟩ := hv; exact kk I' J' hq)
theorem dX10_learn_0 : decode cX10_learn 0 = .ok (.aload_n 0, 1) := by decide +kernel
theorem dX10_learn_1 : decode cX10_learn 1 = .ok (.iload_n 1, 1) := by decide +kernel
theorem dX10_learn_2 : decode cX10_learn 2 = .ok (.invokevirtual 147, 3) := by decide +kernel
theorem dX10_learn_5 : decode cX10_learn 5 = .ok (.istore_n 2, 1) := by decide +kernel
theorem dX10_learn_6 : decode cX10_learn 6 = .ok (.iload_n 2, 1) := by decide +kernel
theorem dX10_learn_7 : decode cX10_learn 7 = .ok (.ifCond .ne 31, 3) := by decide +kernel
theorem dX10_learn_10 : decode cX10_learn 10 = .ok (.aload_n 0, 1) := by decide +kernel
theorem dX10_learn_11 : decode cX10_learn 11 = .ok (.getfield 11, 3) := by decide +kernel
theorem dX10_learn_14 : decode cX10_learn 14 = .ok (.iload_n 1, 1) := by decide +kernel
theorem dX10_learn_15 : decode cX10_learn 15 = .ok (.aaload, 1) := by decide +kernel
theorem dX10_learn_16 : decode cX10_learn 16 = .ok (.invokevirtual 153, 3) := by decide +kernel
theorem dX10_learn_19 : decode cX10_learn 19 = .ok (.ifCond .ne 17, 3) := by decide +kernel
theorem dX10_learn_22 : decode cX10_learn 22 = .ok (.aload_n 0, 1) := by decide +kernel
theorem dX10_learn_23 : decode cX10_learn 23 = .ok (.getfield 11, 3) := by decide +kernel
theorem dX10_learn_26 : decode cX10_learn 26 = .ok (.iload_n 1, 1) := by decide +kernel
theorem dX10_learn_27 : decode cX10_learn 27 = .ok (.aaload, 1) := by decide +kernel
theorem dX10_learn_28 : decode cX10_learn 28 = .ok (.getfield 83, 3) := by decide +kernel
theorem dX10_learn_31 : decode cX10_learn 31 = .ok (.bipush 6, 2) := by decide +kernel
theorem dX10_learn_33 : decode cX10_learn 33 = .ok (.if_icmp .ne 5, 3) := by decide +kernel
theorem dX10_learn_36 : decode cX10_learn 36 = .ok (.iconst 4, 1) := by decide +kernel
theorem dX10_learn_37 : decode cX10_learn 37 = .ok (.istore_n 2, 1) := by decide +kernel
theorem dX10_learn_38 : decode cX10_learn 38 = .ok (.iload_n 2, 1) := by decide +kernel
theorem dX10_learn_39 : decode cX10_learn 39 = .ok (.ifCond .eq 9, 3) := by decide +kernel
theorem dX10_learn_42 : decode cX10_learn 42 = .ok (.aload_n 0, 1) := by decide +kernel
theorem dX10_learn_43 : decode cX10_learn 43 = .ok (.iload_n 2, 1) := by decide +kernel
theorem dX10_learn_44 : decode cX10_learn 44 = .ok (.invokevirtual 73, 3) := by decide +kernel
theorem dX10_learn_47 : decode cX10_learn 47 = .ok (.ireturn, 1) := by decide +kernel
theorem dX10_learn_48 : decode cX10_learn 48 = .ok (.aload_n 0, 1) := by decide +kernel
theorem dX10_learn_49 : decode cX10_learn 49 = .ok (.getfield 46, 3) := by decide +kernel
theorem dX10_learn_52 : decode cX10_learn 52 = .ok (.aload_n 0, 1) := by decide +kernel
theorem dX10_learn_53 : decode cX10_learn 53 = .ok (.getfield 11, 3) := by decide +kernel
theorem dX10_learn_56 : decode cX10_learn 56 = .ok (.iload_n 1, 1) := by decide +kernel
theorem dX10_learn_57 : decode cX10_learn 57 = .ok (.aaload, 1) := by decide +kernel
theorem dX10_learn_58 : decode cX10_learn 58 = .ok (.getfield 76, 3) := by decide +kernel
theorem dX10_learn_61 : decode cX10_learn 61 = .ok (.aload_n 0, 1) := by decide +kernel
theorem dX10_learn_62 : decode cX10_learn 62 = .ok (.getfield 11, 3) := by decide +kernel
theorem dX10_learn_65 : decode cX10_learn 65 = .ok (.iload_n 1, 1) := by decide +kernel
theorem dX10_learn_66 : decode cX10_learn 66 = .ok (.aaload, 1) := by decide +kernel
theorem dX10_learn_67 : decode cX10_learn 67 = .ok (.getfield 156, 3) := by decide +kernel
theorem dX10_learn_70 : decode cX10_learn 70 = .ok (.invokevirtual 240, 3) := by decide +kernel
theorem dX10_learn_73 : decode cX10_learn 73 = .ok (.aload_n 0, 1) := by decide +kernel
theorem dX10_learn_74 : decode cX10_learn 74 = .ok (.aload_n 0, 1) := by decide +kernel
theorem dX10_learn_75 : decode cX10_learn 75 = .ok (.getfield 46, 3) := by decide +kernel
theorem dX10_learn_78 : decode cX10_learn 78 = .ok (.getfield 244, 3) := by decide +kernel
theorem dX10_learn_81 : decode cX10_learn 81 = .ok (.getfield 107, 3) := by decide +kernel
theorem dX10_learn_84 : decode cX10_learn 84 = .ok (.invokevirtual 86, 3) := by decide +kernel
theorem dX10_learn_87 : decode cX10_learn 87 = .ok (.ireturn, 1) := by decide +kernel
def f_School_learn_b38 (x1 : Int32) (x2 : Int32) (Q : Int32 → MI → MJ → Prop) (I : MI) (J : MJ) : Prop :=
  (if x2 = 0 then vp_in x1 16 ∧ vp_in x1 16 ∧ f_Pupil_beginAnew (1 + 64 + 7 * x1.toNatClampNeg + 1) (I (1 + 64 + 7 * x1.toNatClampNeg) 2) I J (fun I70 J70 => f_School_done (I70 43 1) I70 J70 (fun r84 I84 J84 => Q r84 I84 J84)) else f_School_refuse x2 I J (fun r44 I44 J44 => Q r44 I44 J44))
def f_School_learn_b36 (x1 : Int32) (Q : Int32 → MI → MJ → Prop) (I : MI) (J : MJ) : Prop :=
  f_School_learn_b38 x1 4 Q I J
def f_School_learn (x1 : Int32) (I : MI) (J : MJ) (Q : Int32 → MI → MJ → Prop) : Prop :=
  f_School_thingFault x1 I J (fun r2 I2 J2 => (if r2 = 0 then vp_in x1 16 ∧ f_Place_hasMachine (1 + 64 + 7 * x1.toNatClampNeg) I2 J2 (fun r16 I16 J16 => (if r16 = 0 then vp_in x1 16 ∧ (if (I16 (1 + 64 + 7 * x1.toNatClampNeg) 0) = 6 then f_School_learn_b36 x1 Q I16 J16 else f_School_learn_b38 x1 r2 Q I16 J16) else f_School_learn_b36 x1 Q I16 J16)) else f_School_learn_b38 x1 r2 Q I2 J2))
set_option maxRecDepth 100000 in
set_option maxHeartbeats 4000000 in
theorem w_School_learn_b38 {Γ : Ctx} {Q : Int32 → MI → MJ → Prop} {x1 : Int32} {x2 : Int32}  (X : Cx Γ cX10_learn 3 RX10 6) (Y : Rt Γ (Pi Q) (Option.some Jvm.ClassFile.FieldType.int))   {I : MI} {J : MJ} (h : f_School_learn_b38 x1 x2 Q I J) : Wp Γ 3 38 [(0, .ref (ad Γ 0)), (1, .int x1), (2, .int x2)] [] I J := by
  unfold f_School_learn_b38 at h
  refine wp_iload_n X dX10_learn_38 2 rfl ?_
  refine wp_if_eq (tgt := 48) X dX10_learn_39 (by decide) (fun hc => ?_) (fun hc => ?_)
  · have h := ite_t h hc
    refine wp_aload_n X dX10_learn_48 0 rfl ?_
    refine gf_X10_46 (o' := 37) X sh_0 rfl dX10_learn_49 ?_
    refine wp_aload_n X dX10_learn_52 0 rfl ?_
    refine gf_X10_11 (o' := 1) X sh_0 rfl dX10_learn_53 ?_
    refine wp_iload_n X dX10_learn_56 1 rfl ?_
    obtain ⟨hb57, h⟩ := h
    refine wp_aald X sh_1 hb57 dX10_learn_57 ?_
    refine gf_X10_76 (o' := 1 + 64 + 7 * x1.toNatClampNeg + 1) X ((okP_at hb57).1) rfl dX10_learn_58 ?_
    refine wp_aload_n X dX10_learn_61 0 rfl ?_
    refine gf_X10_11 (o' := 1) X sh_0 rfl dX10_learn_62 ?_
    refine wp_iload_n X dX10_learn_65 1 rfl ?_
    obtain ⟨hb66, h⟩ := h
    refine wp_aald X sh_1 hb66 dX10_learn_66 ?_
    refine gf_X10_156 X ((okP_at hb66).1) dX10_learn_67 ?_
    refine cv_Pupil_beginAnew X dX10_learn_70 ml_X10_240 ((okP_at hb57).2.1) h (Nat.le_of_ble_eq_true rfl) (by decide) (fun I70 J70 h => ?_)
    refine wp_aload_n X dX10_learn_73 0 rfl ?_
    refine wp_aload_n X dX10_learn_74 0 rfl ?_
    refine gf_X10_46 (o' := 37) X sh_0 rfl dX10_learn_75 ?_
    refine gf_X10_244 (o' := 43) X sh_37 rfl dX10_learn_78 ?_
    refine gf_X10_107 X okM_43.1 dX10_learn_81 ?_
    refine cv_School_done X dX10_learn_84 ml_X10_86  h (Nat.le_of_ble_eq_true rfl) (by decide) (fun r84 I84 J84 h => ?_)
    exact wp_iret X Y dX10_learn_87 ⟨_, rfl, h⟩
  · have h := ite_f h hc
    refine wp_aload_n X dX10_learn_42 0 rfl ?_
    refine wp_iload_n X dX10_learn_43 2 rfl ?_
    refine cv_School_refuse X dX10_learn_44 ml_X10_73  h (Nat.le_of_ble_eq_true rfl) (by decide) (fun r44 I44 J44 h => ?_)
    exact wp_iret X Y dX10_learn_47 ⟨_, rfl, h⟩

set_option maxRecDepth 100000 in
set_option maxHeartbeats 4000000 in
theorem w_School_learn_b36 {Γ : Ctx} {Q : Int32 → MI → MJ → Prop} {x1 : Int32}  (X : Cx Γ cX10_learn 3 RX10 6) (Y : Rt Γ (Pi Q) (Option.some Jvm.ClassFile.FieldType.int))   {I : MI} {J : MJ} (h : f_School_learn_b36 x1 Q I J) : Wp Γ 3 36 [(0, .ref (ad Γ 0)), (1, .int x1)] [] I J := by
  unfold f_School_learn_b36 at h
  refine wp_iconst X dX10_learn_36 ic_4 ?_
  refine wp_istore_n (L' := [(2, .int 4), (0, .ref (ad Γ 0)), (1, .int x1)]) X dX10_learn_37 rfl (by decide) rfl ?_
  refine wp_sub X [1, 2, 0] rfl ?_
  exact w_School_learn_b38 X Y  h

set_option maxRecDepth 100000 in
set_option maxHeartbeats 4000000 in
theorem w_School_learn_b0 {Γ : Ctx} {Q : Int32 → MI → MJ → Prop} {x1 : Int32}  (X : Cx Γ cX10_learn 3 RX10 6) (Y : Rt Γ (Pi Q) (Option.some Jvm.ClassFile.FieldType.int))   {I : MI} {J : MJ} (h : f_School_learn x1 I J Q) : Wp Γ 3 0 [(0, .ref (ad Γ 0)), (1, .int x1)] [] I J := by
  unfold f_School_learn at h
  refine wp_aload_n X dX10_learn_0 0 rfl ?_
  refine wp_iload_n X dX10_learn_1 1 rfl ?_
  refine cv_School_thingFault X dX10_learn_2 ml_X10_147  h (Nat.le_of_ble_eq_true rfl) (by decide) (fun r2 I2 J2 h => ?_)
  refine wp_istore_n (L' := [(2, .int r2), (0, .ref (ad Γ 0)), (1, .int x1)]) X dX10_learn_5 rfl (by decide) rfl ?_
  refine wp_iload_n X dX10_learn_6 0 rfl ?_
  refine wp_if_ne (tgt := 38) X dX10_learn_7 (by decide) (fun hc => ?_) (fun hc => ?_)
  · have h := ite_f h hc
    refine wp_sub X [1, 2, 0] rfl ?_
    exact w_School_learn_b38 X Y  h
  · have h := ite_t h hc
    refine wp_aload_n X dX10_learn_10 1 rfl ?_
    refine gf_X10_11 (o' := 1) X sh_0 rfl dX10_learn_11 ?_
    refine wp_iload_n X dX10_learn_14 2 rfl ?_
    obtain ⟨hb15, h⟩ := h
    refine wp_aald X sh_1 hb15 dX10_learn_15 ?_
    refine cv_Place_hasMachine X dX10_learn_16 ml_X10_153 (okP_at hb15) h (Nat.le_of_ble_eq_true rfl) (by decide) (fun r16 I16 J16 h => ?_)
    refine wp_if_ne (tgt := 36) X dX10_learn_19 (by decide) (fun hc => ?_) (fun hc => ?_)
    · have h := ite_f h hc
      refine wp_sub X [1, 2] rfl ?_
      exact w_School_learn_b36 X Y  h
    · have h := ite_t h hc
      refine wp_aload_n X dX10_learn_22 1 rfl ?_
      refine gf_X10_11 (o' := 1) X sh_0 rfl dX10_learn_23 ?_
      refine wp_iload_n X dX10_learn_26 2 rfl ?_
      obtain ⟨hb27, h⟩ := h
      refine wp_aald X sh_1 hb27 dX10_learn_27 ?_
      refine gf_X10_83 X ((okP_at hb27).1) dX10_learn_28 ?_
      refine wp_bipush X dX10_learn_31 bi_6 ?_
      refine wp_icmp_ne (tgt := 38) X dX10_learn_33 (by decide) (fun hc => ?_) (fun hc => ?_)
      · have h := ite_f h hc
        refine wp_sub X [1, 2, 0] rfl ?_
        exact w_School_learn_b38 X Y  h
      · have h := ite_t h hc
        refine wp_sub X [1, 2] rfl ?_
        exact w_School_learn_b36 X Y  h

theorem c_School_learn {l : Launch} {g : GE} (hg : Inj g) {I : MI} {J : MJ} {Q : Int32 → MI → MJ → Prop} {x1 : Int32}  (h : f_School_learn x1 I J Q) : Cm l g yX10_learn cX10_learn 3 (Option.some Jvm.ClassFile.FieldType.int) 6 [.ref (g.1 0), .int x1] I J (Pi Q) := by
  refine Cm.of (As := fun ad => [.ref (ad 0), .int x1]) hg pn_X10 (Nat.le_of_ble_eq_true rfl) ?_
  exact (fun Γ _ _ X Y => w_School_learn_b0 X Y  h)
theorem cv_School_learn {Γ : Ctx} {cc : ByteArray} {nL d pc index : Nat} {own : String} {L : List (Nat × Value)} {rest : List Value} {I : MI} {J : MJ} {Q : Int32 → MI → MJ → Prop} {x1 : Int32} (X : Cx Γ cc nL own d) (hd : decode cc pc = .ok (.invokevirtual index, 3)) (hlink : Cond.methodLink own index yX10_learn ∈ TT)  (h : f_School_learn x1 I J Q) (hrest : (rest.map fun v => v.category).sum ≤ 8) (hdd : 6 + 1 ≤ d) (kk : ∀ (r : Int32) (I' : MI) (J' : MJ), Q r I' J' → Wp Γ nL (pc + 3) L (.int r :: rest) I' J') : Wp Γ nL pc L (.int x1 :: .ref (ad Γ 0) :: rest) I J :=
  wp_callV (As := [.int x1]) (rest := rest) (T := TX10) (N := 9) X hd hlink mv_X10_learn sh_0 (by decide) rfl (c_School_learn X.inj  h) rfl rfl hrest hdd (fun v I' J' hv => by obtain ⟨r, rfl, hq⟩ := hv; exact kk r I' J' hq)
theorem dX5_valueAt_0 : decode cX5_valueAt 0 = .ok (.aload_n 0, 1) := by decide +kernel
theorem dX5_valueAt_1 : decode cX5_valueAt 1 = .ok (.getfield 18, 3) := by decide +kernel
theorem dX5_valueAt_4 : decode cX5_valueAt 4 = .ok (.iconst 0, 1) := by decide +kernel
theorem dX5_valueAt_5 : decode cX5_valueAt 5 = .ok (.lload_n 1, 1) := by decide +kernel
theorem dX5_valueAt_6 : decode cX5_valueAt 6 = .ok (.iconst 2, 1) := by decide +kernel
theorem dX5_valueAt_7 : decode cX5_valueAt 7 = .ok (.iload_n 3, 1) := by decide +kernel
theorem dX5_valueAt_8 : decode cX5_valueAt 8 = .ok (.iload 4, 2) := by decide +kernel
theorem dX5_valueAt_10 : decode cX5_valueAt 10 = .ok (.isub, 1) := by decide +kernel
theorem dX5_valueAt_11 : decode cX5_valueAt 11 = .ok (.imul, 1) := by decide +kernel
theorem dX5_valueAt_12 : decode cX5_valueAt 12 = .ok (.lshr, 1) := by decide +kernel
theorem dX5_valueAt_13 : decode cX5_valueAt 13 = .ok (.invokevirtual 77, 3) := by decide +kernel
theorem dX5_valueAt_16 : decode cX5_valueAt 16 = .ok (.istore 5, 2) := by decide +kernel
theorem dX5_valueAt_18 : decode cX5_valueAt 18 = .ok (.iload 5, 2) := by decide +kernel
theorem dX5_valueAt_20 : decode cX5_valueAt 20 = .ok (.iconst (-1), 1) := by decide +kernel
theorem dX5_valueAt_21 : decode cX5_valueAt 21 = .ok (.if_icmp .ne 6, 3) := by decide +kernel
theorem dX5_valueAt_24 : decode cX5_valueAt 24 = .ok (.bipush 8, 2) := by decide +kernel
theorem dX5_valueAt_26 : decode cX5_valueAt 26 = .ok (.ireturn, 1) := by decide +kernel
theorem dX5_valueAt_27 : decode cX5_valueAt 27 = .ok (.aload_n 0, 1) := by decide +kernel
theorem dX5_valueAt_28 : decode cX5_valueAt 28 = .ok (.aload_n 0, 1) := by decide +kernel
theorem dX5_valueAt_29 : decode cX5_valueAt 29 = .ok (.getfield 28, 3) := by decide +kernel
theorem dX5_valueAt_32 : decode cX5_valueAt 32 = .ok (.iload 5, 2) := by decide +kernel
theorem dX5_valueAt_34 : decode cX5_valueAt 34 = .ok (.iconst 4, 1) := by decide +kernel
theorem dX5_valueAt_35 : decode cX5_valueAt 35 = .ok (.idiv, 1) := by decide +kernel
theorem dX5_valueAt_36 : decode cX5_valueAt 36 = .ok (.iaload, 1) := by decide +kernel
theorem dX5_valueAt_37 : decode cX5_valueAt 37 = .ok (.lload_n 1, 1) := by decide +kernel
theorem dX5_valueAt_38 : decode cX5_valueAt 38 = .ok (.iload_n 3, 1) := by decide +kernel
theorem dX5_valueAt_39 : decode cX5_valueAt 39 = .ok (.iload 4, 2) := by decide +kernel
theorem dX5_valueAt_41 : decode cX5_valueAt 41 = .ok (.isub, 1) := by decide +kernel
theorem dX5_valueAt_42 : decode cX5_valueAt 42 = .ok (.invokestatic 123, 3) := by decide +kernel
theorem dX5_valueAt_45 : decode cX5_valueAt 45 = .ok (.invokevirtual 73, 3) := by decide +kernel
theorem dX5_valueAt_48 : decode cX5_valueAt 48 = .ok (.ireturn, 1) := by decide +kernel
def f_Pupil_valueAt (x1 : Int64) (x3 : Int32) (x4 : Int32) (I : MI) (J : MJ) (Q : Int32 → MI → MJ → Prop) : Prop :=
  f_Machine_runFrom 43 (0 : Int32) (x1 >>> ((2 * (x3 - x4)).toInt64 &&& 63)) I J (fun r13 I13 J13 => (if r13 = (-1) then Q 8 I13 J13 else vp_in (r13 / 4) 14 ∧ f_Words_lastSigns x1 (x3 - x4) I13 J13 (fun r42 I42 J42 => f_Pupil_heardFrom (I13 50 (r13 / 4).toNatClampNeg) r42 I42 J42 (fun r45 I45 J45 => Q r45 I45 J45))))
set_option maxRecDepth 100000 in
set_option maxHeartbeats 4000000 in
theorem w_Pupil_valueAt_b0 {Γ : Ctx} {Q : Int32 → MI → MJ → Prop} {x1 : Int64} {x3 : Int32} {x4 : Int32}  (X : Cx Γ cX5_valueAt 6 RX5 4) (Y : Rt Γ (Pi Q) (Option.some Jvm.ClassFile.FieldType.int))   {I : MI} {J : MJ} (h : f_Pupil_valueAt x1 x3 x4 I J Q) : Wp Γ 6 0 [(0, .ref (ad Γ 37)), (1, .long x1), (3, .int x3), (4, .int x4)] [] I J := by
  unfold f_Pupil_valueAt at h
  refine wp_aload_n X dX5_valueAt_0 0 rfl ?_
  refine gf_X5_18 (o' := 43) X sh_37 rfl dX5_valueAt_1 ?_
  refine wp_iconst X dX5_valueAt_4 ic_0 ?_
  refine wp_lload_n X dX5_valueAt_5 1 rfl ?_
  refine wp_iconst X dX5_valueAt_6 ic_2 ?_
  refine wp_iload_n X dX5_valueAt_7 2 rfl ?_
  refine wp_iload X dX5_valueAt_8 3 rfl ?_
  refine wp_isub X dX5_valueAt_10 ?_
  refine wp_imul X dX5_valueAt_11 ?_
  refine wp_lshr X dX5_valueAt_12 ?_
  refine cv_Machine_runFrom X dX5_valueAt_13 ml_X5_77 okM_43 h (Nat.le_of_ble_eq_true rfl) (by decide) (fun r13 I13 J13 h => ?_)
  refine wp_istore (L' := [(5, .int r13), (0, .ref (ad Γ 37)), (1, .long x1), (3, .int x3), (4, .int x4)]) X dX5_valueAt_16 (by decide) rfl ?_
  refine wp_iload X dX5_valueAt_18 0 rfl ?_
  refine wp_iconst X dX5_valueAt_20 ic_m1 ?_
  refine wp_icmp_ne (tgt := 27) X dX5_valueAt_21 (by decide) (fun hc => ?_) (fun hc => ?_)
  · have h := ite_f h hc
    refine wp_aload_n X dX5_valueAt_27 1 rfl ?_
    refine wp_aload_n X dX5_valueAt_28 1 rfl ?_
    refine gf_X5_28 (o' := 50) X sh_37 rfl dX5_valueAt_29 ?_
    refine wp_iload X dX5_valueAt_32 0 rfl ?_
    refine wp_iconst X dX5_valueAt_34 ic_4 ?_
    refine wp_idiv X dX5_valueAt_35 (by decide) ?_
    obtain ⟨hb36, h⟩ := h
    refine wp_iald X sh_50 hb36 dX5_valueAt_36 ?_
    refine wp_lload_n X dX5_valueAt_37 2 rfl ?_
    refine wp_iload_n X dX5_valueAt_38 3 rfl ?_
    refine wp_iload X dX5_valueAt_39 4 rfl ?_
    refine wp_isub X dX5_valueAt_41 ?_
    refine cs_Words_lastSigns X dX5_valueAt_42 ml_X5_123  h (Nat.le_of_ble_eq_true rfl) (by decide) (fun r42 I42 J42 h => ?_)
    refine cv_Pupil_heardFrom X dX5_valueAt_45 ml_X5_73  h (Nat.le_of_ble_eq_true rfl) (by decide) (fun r45 I45 J45 h => ?_)
    exact wp_iret X Y dX5_valueAt_48 ⟨_, rfl, h⟩
  · have h := ite_t h hc
    refine wp_bipush X dX5_valueAt_24 bi_8 ?_
    exact wp_iret X Y dX5_valueAt_26 ⟨_, rfl, h⟩

theorem c_Pupil_valueAt {l : Launch} {g : GE} (hg : Inj g) {I : MI} {J : MJ} {Q : Int32 → MI → MJ → Prop} {x1 : Int64} {x3 : Int32} {x4 : Int32}  (h : f_Pupil_valueAt x1 x3 x4 I J Q) : Cm l g yX5_valueAt cX5_valueAt 6 (Option.some Jvm.ClassFile.FieldType.int) 4 [.ref (g.1 37), .long x1, .int x3, .int x4] I J (Pi Q) := by
  refine Cm.of (As := fun ad => [.ref (ad 37), .long x1, .int x3, .int x4]) hg pn_X5 (Nat.le_of_ble_eq_true rfl) ?_
  exact (fun Γ _ _ X Y => w_Pupil_valueAt_b0 X Y  h)
theorem cv_Pupil_valueAt {Γ : Ctx} {cc : ByteArray} {nL d pc index : Nat} {own : String} {L : List (Nat × Value)} {rest : List Value} {I : MI} {J : MJ} {Q : Int32 → MI → MJ → Prop} {x1 : Int64} {x3 : Int32} {x4 : Int32} (X : Cx Γ cc nL own d) (hd : decode cc pc = .ok (.invokevirtual index, 3)) (hlink : Cond.methodLink own index yX5_valueAt ∈ TT)  (h : f_Pupil_valueAt x1 x3 x4 I J Q) (hrest : (rest.map fun v => v.category).sum ≤ 8) (hdd : 4 + 1 ≤ d) (kk : ∀ (r : Int32) (I' : MI) (J' : MJ), Q r I' J' → Wp Γ nL (pc + 3) L (.int r :: rest) I' J') : Wp Γ nL pc L (.int x4 :: .int x3 :: .long x1 :: .ref (ad Γ 37) :: rest) I J :=
  wp_callV (As := [.long x1, .int x3, .int x4]) (rest := rest) (T := TX5) (N := 12) X hd hlink mv_X5_valueAt sh_37 (by decide) rfl (c_Pupil_valueAt X.inj  h) rfl rfl hrest hdd (fun v I' J' hv => by obtain ⟨r, rfl, hq⟩ := hv; exact kk r I' J' hq)
theorem dX5_learnWord_0 : decode cX5_learnWord 0 = .ok (.lload_n 1, 1) := by decide +kernel
theorem dX5_learnWord_1 : decode cX5_learnWord 1 = .ok (.invokestatic 113, 3) := by decide +kernel
theorem dX5_learnWord_4 : decode cX5_learnWord 4 = .ok (.istore_n 3, 1) := by decide +kernel
theorem dX5_learnWord_5 : decode cX5_learnWord 5 = .ok (.aload_n 0, 1) := by decide +kernel
theorem dX5_learnWord_6 : decode cX5_learnWord 6 = .ok (.lload_n 1, 1) := by decide +kernel
theorem dX5_learnWord_7 : decode cX5_learnWord 7 = .ok (.iload_n 3, 1) := by decide +kernel
theorem dX5_learnWord_8 : decode cX5_learnWord 8 = .ok (.iconst 0, 1) := by decide +kernel
theorem dX5_learnWord_9 : decode cX5_learnWord 9 = .ok (.invokevirtual 119, 3) := by decide +kernel
theorem dX5_learnWord_12 : decode cX5_learnWord 12 = .ok (.istore 4, 2) := by decide +kernel
theorem dX5_learnWord_14 : decode cX5_learnWord 14 = .ok (.iconst 0, 1) := by decide +kernel
theorem dX5_learnWord_15 : decode cX5_learnWord 15 = .ok (.istore 5, 2) := by decide +kernel
theorem dX5_learnWord_17 : decode cX5_learnWord 17 = .ok (.iload_n 3, 1) := by decide +kernel
theorem dX5_learnWord_18 : decode cX5_learnWord 18 = .ok (.istore 6, 2) := by decide +kernel
theorem dX5_learnWord_20 : decode cX5_learnWord 20 = .ok (.iconst 0, 1) := by decide +kernel
theorem dX5_learnWord_21 : decode cX5_learnWord 21 = .ok (.istore 7, 2) := by decide +kernel
theorem dX5_learnWord_23 : decode cX5_learnWord 23 = .ok (.iload 7, 2) := by decide +kernel
theorem dX5_learnWord_25 : decode cX5_learnWord 25 = .ok (.bipush 30, 2) := by decide +kernel
theorem dX5_learnWord_27 : decode cX5_learnWord 27 = .ok (.if_icmp .ge 51, 3) := by decide +kernel
theorem dX5_learnWord_30 : decode cX5_learnWord 30 = .ok (.iload 6, 2) := by decide +kernel
theorem dX5_learnWord_32 : decode cX5_learnWord 32 = .ok (.iload 5, 2) := by decide +kernel
theorem dX5_learnWord_34 : decode cX5_learnWord 34 = .ok (.iconst 1, 1) := by decide +kernel
theorem dX5_learnWord_35 : decode cX5_learnWord 35 = .ok (.iadd, 1) := by decide +kernel
theorem dX5_learnWord_36 : decode cX5_learnWord 36 = .ok (.if_icmp .le 42, 3) := by decide +kernel
theorem dX5_learnWord_39 : decode cX5_learnWord 39 = .ok (.iload 5, 2) := by decide +kernel
theorem dX5_learnWord_41 : decode cX5_learnWord 41 = .ok (.iload 6, 2) := by decide +kernel
theorem dX5_learnWord_43 : decode cX5_learnWord 43 = .ok (.iadd, 1) := by decide +kernel
theorem dX5_learnWord_44 : decode cX5_learnWord 44 = .ok (.iconst 2, 1) := by decide +kernel
theorem dX5_learnWord_45 : decode cX5_learnWord 45 = .ok (.idiv, 1) := by decide +kernel
theorem dX5_learnWord_46 : decode cX5_learnWord 46 = .ok (.istore 8, 2) := by decide +kernel
theorem dX5_learnWord_48 : decode cX5_learnWord 48 = .ok (.aload_n 0, 1) := by decide +kernel
theorem dX5_learnWord_49 : decode cX5_learnWord 49 = .ok (.lload_n 1, 1) := by decide +kernel
theorem dX5_learnWord_50 : decode cX5_learnWord 50 = .ok (.iload_n 3, 1) := by decide +kernel
theorem dX5_learnWord_51 : decode cX5_learnWord 51 = .ok (.iload 8, 2) := by decide +kernel
theorem dX5_learnWord_53 : decode cX5_learnWord 53 = .ok (.invokevirtual 119, 3) := by decide +kernel
theorem dX5_learnWord_56 : decode cX5_learnWord 56 = .ok (.iload 4, 2) := by decide +kernel
theorem dX5_learnWord_58 : decode cX5_learnWord 58 = .ok (.if_icmp .ne 10, 3) := by decide +kernel
theorem dX5_learnWord_61 : decode cX5_learnWord 61 = .ok (.iload 8, 2) := by decide +kernel
theorem dX5_learnWord_63 : decode cX5_learnWord 63 = .ok (.istore 5, 2) := by decide +kernel
theorem dX5_learnWord_65 : decode cX5_learnWord 65 = .ok (.goto 7, 3) := by decide +kernel
theorem dX5_learnWord_68 : decode cX5_learnWord 68 = .ok (.iload 8, 2) := by decide +kernel
theorem dX5_learnWord_70 : decode cX5_learnWord 70 = .ok (.istore 6, 2) := by decide +kernel
theorem dX5_learnWord_72 : decode cX5_learnWord 72 = .ok (.iinc 7 1, 3) := by decide +kernel
theorem dX5_learnWord_75 : decode cX5_learnWord 75 = .ok (.goto (-52), 3) := by decide +kernel
theorem dX5_learnWord_78 : decode cX5_learnWord 78 = .ok (.aload_n 0, 1) := by decide +kernel
theorem dX5_learnWord_79 : decode cX5_learnWord 79 = .ok (.lload_n 1, 1) := by decide +kernel
theorem dX5_learnWord_80 : decode cX5_learnWord 80 = .ok (.iload_n 3, 1) := by decide +kernel
theorem dX5_learnWord_81 : decode cX5_learnWord 81 = .ok (.iload 6, 2) := by decide +kernel
theorem dX5_learnWord_83 : decode cX5_learnWord 83 = .ok (.isub, 1) := by decide +kernel
theorem dX5_learnWord_84 : decode cX5_learnWord 84 = .ok (.invokestatic 123, 3) := by decide +kernel
theorem dX5_learnWord_87 : decode cX5_learnWord 87 = .ok (.invokevirtual 60, 3) := by decide +kernel
theorem dX5_learnWord_90 : decode cX5_learnWord 90 = .ok (.aload_n 0, 1) := by decide +kernel
theorem dX5_learnWord_91 : decode cX5_learnWord 91 = .ok (.invokevirtual 64, 3) := by decide +kernel
theorem dX5_learnWord_94 : decode cX5_learnWord 94 = .ok (.aload_n 0, 1) := by decide +kernel
theorem dX5_learnWord_95 : decode cX5_learnWord 95 = .ok (.invokevirtual 67, 3) := by decide +kernel
theorem dX5_learnWord_98 : decode cX5_learnWord 98 = .ok (.aload_n 0, 1) := by decide +kernel
theorem dX5_learnWord_99 : decode cX5_learnWord 99 = .ok (.lload_n 1, 1) := by decide +kernel
theorem dX5_learnWord_100 : decode cX5_learnWord 100 = .ok (.putfield 56, 3) := by decide +kernel
theorem dX5_learnWord_103 : decode cX5_learnWord 103 = .ok (.return_, 1) := by decide +kernel
def f_Pupil_learnWord_b78 (x1 : Int64) (x3 : Int32) (x6 : Int32) (Q : MI → MJ → Prop) (I : MI) (J : MJ) : Prop :=
  f_Words_lastSigns x1 (x3 - x6) I J (fun r84 I84 J84 => f_Pupil_addBehind r84 I84 J84 (fun I87 J87 => f_Pupil_closeAhead I87 J87 (fun I91 J91 => f_Pupil_makeGuess I91 J91 (fun I95 J95 => ∀ J100 : MJ, J100 = sJ J95 37 (vp_updL (J95 37) 5 x1) → Q I95 J100))))
def f_Pupil_learnWord_b72 (x5 : Int32) (x6 : Int32) (x7 : Int32) (kh : Int32 → Int32 → Int32 → MI → MJ → Prop) (I : MI) (J : MJ) : Prop :=
  ∀ t72 : Int32, t72 = x7 + 1 → kh x5 x6 t72 I J
def f_Pupil_learnWord_L23 (x1 : Int64) (x3 : Int32) (x4 : Int32) (k78 : Int32 → MI → MJ → Prop) : Nat → Int32 → Int32 → Int32 → MI → MJ → Prop
  | 0, _, _, _, _, _ => False
  | nf23 + 1, x5, x6, x7, I, J =>
  (if 30 ≤ x7 then k78 x6 I J else (if x6 ≤ (x5 + 1) then k78 x6 I J else ∀ t46 : Int32, t46 = (x5 + x6) / 2 → f_Pupil_valueAt x1 x3 t46 I J (fun r53 I53 J53 => (if r53 = x4 then f_Pupil_learnWord_b72 t46 x6 x7 (f_Pupil_learnWord_L23 x1 x3 x4 k78 nf23) I53 J53 else f_Pupil_learnWord_b72 x5 t46 x7 (f_Pupil_learnWord_L23 x1 x3 x4 k78 nf23) I53 J53))))
def f_Pupil_learnWord (x1 : Int64) (I : MI) (J : MJ) (Q : MI → MJ → Prop) : Prop :=
  f_Words_lengthOf x1 I J (fun r1 I1 J1 => f_Pupil_valueAt x1 r1 (0 : Int32) I1 J1 (fun r9 I9 J9 => ∃ n, f_Pupil_learnWord_L23 x1 r1 r9 (fun (z78_x6 : Int32) (I : MI) (J : MJ) => f_Pupil_learnWord_b78 x1 r1 z78_x6 Q I J) n 0 r1 0 I9 J9))
set_option maxRecDepth 100000 in
set_option maxHeartbeats 4000000 in
theorem w_Pupil_learnWord_b78 {Γ : Ctx} {Q : MI → MJ → Prop} {x1 : Int64} {x3 : Int32} {x6 : Int32}  (X : Cx Γ cX5_learnWord 9 RX5 5) (Y : Rt Γ (Pv Q) (Option.none : Option Jvm.ClassFile.FieldType))   {I : MI} {J : MJ} (h : f_Pupil_learnWord_b78 x1 x3 x6 Q I J) : Wp Γ 9 78 [(0, .ref (ad Γ 37)), (1, .long x1), (3, .int x3), (6, .int x6)] [] I J := by
  unfold f_Pupil_learnWord_b78 at h
  refine wp_aload_n X dX5_learnWord_78 0 rfl ?_
  refine wp_lload_n X dX5_learnWord_79 1 rfl ?_
  refine wp_iload_n X dX5_learnWord_80 2 rfl ?_
  refine wp_iload X dX5_learnWord_81 3 rfl ?_
  refine wp_isub X dX5_learnWord_83 ?_
  refine cs_Words_lastSigns X dX5_learnWord_84 ml_X5_123  h (Nat.le_of_ble_eq_true rfl) (by decide) (fun r84 I84 J84 h => ?_)
  refine cv_Pupil_addBehind X dX5_learnWord_87 ml_X5_60  h (Nat.le_of_ble_eq_true rfl) (by decide) (fun I87 J87 h => ?_)
  refine wp_aload_n X dX5_learnWord_90 0 rfl ?_
  refine cv_Pupil_closeAhead X dX5_learnWord_91 ml_X5_64  h (Nat.le_of_ble_eq_true rfl) (by decide) (fun I91 J91 h => ?_)
  refine wp_aload_n X dX5_learnWord_94 0 rfl ?_
  refine cv_Pupil_makeGuess X dX5_learnWord_95 ml_X5_67  h (Nat.le_of_ble_eq_true rfl) (by decide) (fun I95 J95 h => ?_)
  refine wp_aload_n X dX5_learnWord_98 0 rfl ?_
  refine wp_lload_n X dX5_learnWord_99 1 rfl ?_
  refine pf_X5_56 X sh_37 dX5_learnWord_100 (fun J100 eJ100 => ?_)
  have h := h J100 eJ100
  exact wp_vret X Y dX5_learnWord_103 ⟨rfl, h⟩

set_option maxRecDepth 100000 in
set_option maxHeartbeats 4000000 in
theorem w_Pupil_learnWord_b72 {Γ : Ctx} {Q : MI → MJ → Prop} {x1 : Int64} {x3 : Int32} {x4 : Int32} {x5 : Int32} {x6 : Int32} {x7 : Int32} {kh : Int32 → Int32 → Int32 → MI → MJ → Prop} (X : Cx Γ cX5_learnWord 9 RX5 5) (Y : Rt Γ (Pv Q) (Option.none : Option Jvm.ClassFile.FieldType))  (hkh : ∀ (x5 : Int32) (x6 : Int32) (x7 : Int32) (I : MI) (J : MJ), kh x5 x6 x7 I J → Wp Γ 9 23 [(0, .ref (ad Γ 37)), (1, .long x1), (3, .int x3), (4, .int x4), (5, .int x5), (6, .int x6), (7, .int x7)] [] I J) {I : MI} {J : MJ} (h : f_Pupil_learnWord_b72 x5 x6 x7 kh I J) : Wp Γ 9 72 [(0, .ref (ad Γ 37)), (1, .long x1), (3, .int x3), (4, .int x4), (5, .int x5), (6, .int x6), (7, .int x7)] [] I J := by
  unfold f_Pupil_learnWord_b72 at h
  obtain ⟨t72, et72⟩ : ∃ y : Int32, y = x7 + 1 := ⟨_, rfl⟩
  have h := h t72 et72
  refine wp_iinc (L' := [(7, .int t72), (0, .ref (ad Γ 37)), (1, .long x1), (3, .int x3), (4, .int x4), (5, .int x5), (6, .int x6)]) X dX5_learnWord_72 6 rfl (ii_1 et72) (by decide) rfl ?_
  refine wp_goto (tgt := 23) X dX5_learnWord_75 (by decide) ?_
  refine wp_sub X [1, 2, 3, 4, 5, 6, 0] rfl ?_
  exact hkh _ _ _ _ _ h

set_option maxRecDepth 100000 in
set_option maxHeartbeats 4000000 in
theorem w_Pupil_learnWord_L23 {Γ : Ctx} {Q : MI → MJ → Prop} {x1 : Int64} {x3 : Int32} {x4 : Int32} {k78 : Int32 → MI → MJ → Prop} (X : Cx Γ cX5_learnWord 9 RX5 5) (Y : Rt Γ (Pv Q) (Option.none : Option Jvm.ClassFile.FieldType))  (hk78 : ∀ (x6 : Int32) (I : MI) (J : MJ), k78 x6 I J → Wp Γ 9 78 [(0, .ref (ad Γ 37)), (1, .long x1), (3, .int x3), (6, .int x6)] [] I J) : ∀ (n : Nat) (x5 : Int32) (x6 : Int32) (x7 : Int32) (I : MI) (J : MJ), f_Pupil_learnWord_L23 x1 x3 x4 k78 n x5 x6 x7 I J → Wp Γ 9 23 [(0, .ref (ad Γ 37)), (1, .long x1), (3, .int x3), (4, .int x4), (5, .int x5), (6, .int x6), (7, .int x7)] [] I J := by
  intro n
  induction n with
  | zero => intro x5 x6 x7 I J h; exact absurd h (by simp [f_Pupil_learnWord_L23])
  | succ n ih =>
  intro x5 x6 x7 I J h
  unfold f_Pupil_learnWord_L23 at h
  refine wp_iload X dX5_learnWord_23 6 rfl ?_
  refine wp_bipush X dX5_learnWord_25 bi_30 ?_
  refine wp_icmp_ge (tgt := 78) X dX5_learnWord_27 (by decide) (fun hc => ?_) (fun hc => ?_)
  · have h := ite_t h hc
    refine wp_sub X [0, 1, 2, 5] rfl ?_
    exact hk78 _ _ _ h
  · have h := ite_f h hc
    refine wp_iload X dX5_learnWord_30 5 rfl ?_
    refine wp_iload X dX5_learnWord_32 4 rfl ?_
    refine wp_iconst X dX5_learnWord_34 ic_1 ?_
    refine wp_iadd X dX5_learnWord_35 ?_
    refine wp_icmp_le (tgt := 78) X dX5_learnWord_36 (by decide) (fun hc => ?_) (fun hc => ?_)
    · have h := ite_t h hc
      refine wp_sub X [0, 1, 2, 5] rfl ?_
      exact hk78 _ _ _ h
    · have h := ite_f h hc
      refine wp_iload X dX5_learnWord_39 4 rfl ?_
      refine wp_iload X dX5_learnWord_41 5 rfl ?_
      refine wp_iadd X dX5_learnWord_43 ?_
      refine wp_iconst X dX5_learnWord_44 ic_2 ?_
      refine wp_idiv X dX5_learnWord_45 (by decide) ?_
      refine wp_topi (fun t46 et46 => ?_)
      have h := h t46 et46
      refine wp_istore (L' := [(8, .int t46), (0, .ref (ad Γ 37)), (1, .long x1), (3, .int x3), (4, .int x4), (5, .int x5), (6, .int x6), (7, .int x7)]) X dX5_learnWord_46 (by decide) rfl ?_
      refine wp_aload_n X dX5_learnWord_48 1 rfl ?_
      refine wp_lload_n X dX5_learnWord_49 2 rfl ?_
      refine wp_iload_n X dX5_learnWord_50 3 rfl ?_
      refine wp_iload X dX5_learnWord_51 0 rfl ?_
      refine cv_Pupil_valueAt X dX5_learnWord_53 ml_X5_119  h (Nat.le_of_ble_eq_true rfl) (by decide) (fun r53 I53 J53 h => ?_)
      refine wp_iload X dX5_learnWord_56 4 rfl ?_
      refine wp_icmp_ne (tgt := 68) X dX5_learnWord_58 (by decide) (fun hc => ?_) (fun hc => ?_)
      · have h := ite_f h hc
        refine wp_iload X dX5_learnWord_68 0 rfl ?_
        refine wp_istore (L' := [(6, .int t46), (8, .int t46), (0, .ref (ad Γ 37)), (1, .long x1), (3, .int x3), (4, .int x4), (5, .int x5), (7, .int x7)]) X dX5_learnWord_70 (by decide) rfl ?_
        refine wp_sub X [2, 3, 4, 5, 6, 0, 7] rfl ?_
        exact w_Pupil_learnWord_b72 X Y ih h
      · have h := ite_t h hc
        refine wp_iload X dX5_learnWord_61 0 rfl ?_
        refine wp_istore (L' := [(5, .int t46), (8, .int t46), (0, .ref (ad Γ 37)), (1, .long x1), (3, .int x3), (4, .int x4), (6, .int x6), (7, .int x7)]) X dX5_learnWord_63 (by decide) rfl ?_
        refine wp_goto (tgt := 72) X dX5_learnWord_65 (by decide) ?_
        refine wp_sub X [2, 3, 4, 5, 0, 6, 7] rfl ?_
        exact w_Pupil_learnWord_b72 X Y ih h

set_option maxRecDepth 100000 in
set_option maxHeartbeats 4000000 in
theorem w_Pupil_learnWord_b0 {Γ : Ctx} {Q : MI → MJ → Prop} {x1 : Int64}  (X : Cx Γ cX5_learnWord 9 RX5 5) (Y : Rt Γ (Pv Q) (Option.none : Option Jvm.ClassFile.FieldType))   {I : MI} {J : MJ} (h : f_Pupil_learnWord x1 I J Q) : Wp Γ 9 0 [(0, .ref (ad Γ 37)), (1, .long x1)] [] I J := by
  unfold f_Pupil_learnWord at h
  refine wp_lload_n X dX5_learnWord_0 1 rfl ?_
  refine cs_Words_lengthOf X dX5_learnWord_1 ml_X5_113  h (Nat.le_of_ble_eq_true rfl) (by decide) (fun r1 I1 J1 h => ?_)
  refine wp_istore_n (L' := [(3, .int r1), (0, .ref (ad Γ 37)), (1, .long x1)]) X dX5_learnWord_4 rfl (by decide) rfl ?_
  refine wp_aload_n X dX5_learnWord_5 1 rfl ?_
  refine wp_lload_n X dX5_learnWord_6 2 rfl ?_
  refine wp_iload_n X dX5_learnWord_7 0 rfl ?_
  refine wp_iconst X dX5_learnWord_8 ic_0 ?_
  refine cv_Pupil_valueAt X dX5_learnWord_9 ml_X5_119  h (Nat.le_of_ble_eq_true rfl) (by decide) (fun r9 I9 J9 h => ?_)
  refine wp_istore (L' := [(4, .int r9), (3, .int r1), (0, .ref (ad Γ 37)), (1, .long x1)]) X dX5_learnWord_12 (by decide) rfl ?_
  refine wp_iconst X dX5_learnWord_14 ic_0 ?_
  refine wp_istore (L' := [(5, .int 0), (4, .int r9), (3, .int r1), (0, .ref (ad Γ 37)), (1, .long x1)]) X dX5_learnWord_15 (by decide) rfl ?_
  refine wp_iload_n X dX5_learnWord_17 2 rfl ?_
  refine wp_istore (L' := [(6, .int r1), (5, .int 0), (4, .int r9), (3, .int r1), (0, .ref (ad Γ 37)), (1, .long x1)]) X dX5_learnWord_18 (by decide) rfl ?_
  refine wp_iconst X dX5_learnWord_20 ic_0 ?_
  refine wp_istore (L' := [(7, .int 0), (6, .int r1), (5, .int 0), (4, .int r9), (3, .int r1), (0, .ref (ad Γ 37)), (1, .long x1)]) X dX5_learnWord_21 (by decide) rfl ?_
  obtain ⟨n, h⟩ := h
  refine wp_sub X [5, 6, 4, 3, 2, 1, 0] rfl ?_
  refine w_Pupil_learnWord_L23 X Y  ?_ n _ _ _ _ _ h
  · intro z78_x6 I J h
    exact w_Pupil_learnWord_b78 X Y  h

theorem c_Pupil_learnWord {l : Launch} {g : GE} (hg : Inj g) {I : MI} {J : MJ} {Q : MI → MJ → Prop} {x1 : Int64}  (h : f_Pupil_learnWord x1 I J Q) : Cm l g yX5_learnWord cX5_learnWord 9 (Option.none : Option Jvm.ClassFile.FieldType) 5 [.ref (g.1 37), .long x1] I J (Pv Q) := by
  refine Cm.of (As := fun ad => [.ref (ad 37), .long x1]) hg pn_X5 (Nat.le_of_ble_eq_true rfl) ?_
  exact (fun Γ _ _ X Y => w_Pupil_learnWord_b0 X Y  h)
theorem cv_Pupil_learnWord {Γ : Ctx} {cc : ByteArray} {nL d pc index : Nat} {own : String} {L : List (Nat × Value)} {rest : List Value} {I : MI} {J : MJ} {Q : MI → MJ → Prop} {x1 : Int64} (X : Cx Γ cc nL own d) (hd : decode cc pc = .ok (.invokevirtual index, 3)) (hlink : Cond.methodLink own index yX5_learnWord ∈ TT)  (h : f_Pupil_learnWord x1 I J Q) (hrest : (rest.map fun v => v.category).sum ≤ 8) (hdd : 5 + 1 ≤ d) (kk : ∀ (I' : MI) (J' : MJ), Q I' J' → Wp Γ nL (pc + 3) L rest I' J') : Wp Γ nL pc L (.long x1 :: .ref (ad Γ 37) :: rest) I J :=
  wp_callV (As := [.long x1]) (rest := rest) (T := TX5) (N := 12) X hd hlink mv_X5_learnWord sh_37 (by decide) rfl (c_Pupil_learnWord X.inj  h) rfl rfl hrest hdd (fun v I' J' hv => by obtain ⟨rfl, hq⟩ := hv; exact kk I' J' hq)
theorem dX10_exam_0 : decode cX10_exam 0 = .ok (.aload_n 0, 1) := by decide +kernel
theorem dX10_exam_1 : decode cX10_exam 1 = .ok (.getfield 46, 3) := by decide +kernel
theorem dX10_exam_4 : decode cX10_exam 4 = .ok (.getfield 247, 3) := by decide +kernel
theorem dX10_exam_7 : decode cX10_exam 7 = .ok (.ifCond .ne 9, 3) := by decide +kernel
theorem dX10_exam_10 : decode cX10_exam 10 = .ok (.aload_n 0, 1) := by decide +kernel
theorem dX10_exam_11 : decode cX10_exam 11 = .ok (.iconst 1, 1) := by decide +kernel
theorem dX10_exam_12 : decode cX10_exam 12 = .ok (.invokevirtual 73, 3) := by decide +kernel
theorem dX10_exam_15 : decode cX10_exam 15 = .ok (.ireturn, 1) := by decide +kernel
theorem dX10_exam_16 : decode cX10_exam 16 = .ok (.aload_n 0, 1) := by decide +kernel
theorem dX10_exam_17 : decode cX10_exam 17 = .ok (.getfield 18, 3) := by decide +kernel
theorem dX10_exam_20 : decode cX10_exam 20 = .ok (.aload_n 0, 1) := by decide +kernel
theorem dX10_exam_21 : decode cX10_exam 21 = .ok (.getfield 46, 3) := by decide +kernel
theorem dX10_exam_24 : decode cX10_exam 24 = .ok (.getfield 251, 3) := by decide +kernel
theorem dX10_exam_27 : decode cX10_exam 27 = .ok (.iconst 0, 1) := by decide +kernel
theorem dX10_exam_28 : decode cX10_exam 28 = .ok (.aload_n 0, 1) := by decide +kernel
theorem dX10_exam_29 : decode cX10_exam 29 = .ok (.getfield 46, 3) := by decide +kernel
theorem dX10_exam_32 : decode cX10_exam 32 = .ok (.getfield 244, 3) := by decide +kernel
theorem dX10_exam_35 : decode cX10_exam 35 = .ok (.iconst 0, 1) := by decide +kernel
theorem dX10_exam_36 : decode cX10_exam 36 = .ok (.invokevirtual 201, 3) := by decide +kernel
theorem dX10_exam_39 : decode cX10_exam 39 = .ok (.lstore_n 1, 1) := by decide +kernel
theorem dX10_exam_40 : decode cX10_exam 40 = .ok (.lload_n 1, 1) := by decide +kernel
theorem dX10_exam_41 : decode cX10_exam 41 = .ok (.invokestatic 254, 3) := by decide +kernel
theorem dX10_exam_44 : decode cX10_exam 44 = .ok (.istore_n 3, 1) := by decide +kernel
theorem dX10_exam_45 : decode cX10_exam 45 = .ok (.iload_n 3, 1) := by decide +kernel
theorem dX10_exam_46 : decode cX10_exam 46 = .ok (.iconst (-1), 1) := by decide +kernel
theorem dX10_exam_47 : decode cX10_exam 47 = .ok (.if_icmp .eq 14, 3) := by decide +kernel
theorem dX10_exam_50 : decode cX10_exam 50 = .ok (.iload_n 3, 1) := by decide +kernel
theorem dX10_exam_51 : decode cX10_exam 51 = .ok (.aload_n 0, 1) := by decide +kernel
theorem dX10_exam_52 : decode cX10_exam 52 = .ok (.getfield 46, 3) := by decide +kernel
theorem dX10_exam_55 : decode cX10_exam 55 = .ok (.getfield 257, 3) := by decide +kernel
theorem dX10_exam_58 : decode cX10_exam 58 = .ok (.if_icmp .le 9, 3) := by decide +kernel
theorem dX10_exam_61 : decode cX10_exam 61 = .ok (.aload_n 0, 1) := by decide +kernel
theorem dX10_exam_62 : decode cX10_exam 62 = .ok (.iconst 0, 1) := by decide +kernel
theorem dX10_exam_63 : decode cX10_exam 63 = .ok (.invokevirtual 86, 3) := by decide +kernel
theorem dX10_exam_66 : decode cX10_exam 66 = .ok (.ireturn, 1) := by decide +kernel
theorem dX10_exam_67 : decode cX10_exam 67 = .ok (.aload_n 0, 1) := by decide +kernel
theorem dX10_exam_68 : decode cX10_exam 68 = .ok (.getfield 46, 3) := by decide +kernel
theorem dX10_exam_71 : decode cX10_exam 71 = .ok (.lload_n 1, 1) := by decide +kernel
theorem dX10_exam_72 : decode cX10_exam 72 = .ok (.invokevirtual 258, 3) := by decide +kernel
theorem dX10_exam_75 : decode cX10_exam 75 = .ok (.aload_n 0, 1) := by decide +kernel
theorem dX10_exam_76 : decode cX10_exam 76 = .ok (.aload_n 0, 1) := by decide +kernel
theorem dX10_exam_77 : decode cX10_exam 77 = .ok (.getfield 46, 3) := by decide +kernel
theorem dX10_exam_80 : decode cX10_exam 80 = .ok (.getfield 244, 3) := by decide +kernel
theorem dX10_exam_83 : decode cX10_exam 83 = .ok (.getfield 107, 3) := by decide +kernel
theorem dX10_exam_86 : decode cX10_exam 86 = .ok (.invokevirtual 86, 3) := by decide +kernel
theorem dX10_exam_89 : decode cX10_exam 89 = .ok (.ireturn, 1) := by decide +kernel
def f_School_exam_b61  (Q : Int32 → MI → MJ → Prop) (I : MI) (J : MJ) : Prop :=
  f_School_done (0 : Int32) I J (fun r63 I63 J63 => Q r63 I63 J63)
def f_School_exam (I : MI) (J : MJ) (Q : Int32 → MI → MJ → Prop) : Prop :=
  (if (I 37 0) = 0 then f_School_refuse (1 : Int32) I J (fun r12 I12 J12 => Q r12 I12 J12) else f_Chart_firstUnlike 38 (0 : Int32) 43 (0 : Int32) I J (fun r36 I36 J36 => f_Words_lengthOf r36 I36 J36 (fun r41 I41 J41 => (if r41 = (-1) then f_School_exam_b61 Q I41 J41 else (if r41 ≤ (I41 37 1) then f_Pupil_learnWord r36 I41 J41 (fun I72 J72 => f_School_done (I72 43 1) I72 J72 (fun r86 I86 J86 => Q r86 I86 J86)) else f_School_exam_b61 Q I41 J41)))))
set_option maxRecDepth 100000 in
set_option maxHeartbeats 4000000 in
theorem w_School_exam_b61 {Γ : Ctx} {Q : Int32 → MI → MJ → Prop}   (X : Cx Γ cX10_exam 4 RX10 6) (Y : Rt Γ (Pi Q) (Option.some Jvm.ClassFile.FieldType.int))   {I : MI} {J : MJ} (h : f_School_exam_b61 Q I J) : Wp Γ 4 61 [(0, .ref (ad Γ 0))] [] I J := by
  unfold f_School_exam_b61 at h
  refine wp_aload_n X dX10_exam_61 0 rfl ?_
  refine wp_iconst X dX10_exam_62 ic_0 ?_
  refine cv_School_done X dX10_exam_63 ml_X10_86  h (Nat.le_of_ble_eq_true rfl) (by decide) (fun r63 I63 J63 h => ?_)
  exact wp_iret X Y dX10_exam_66 ⟨_, rfl, h⟩

set_option maxRecDepth 100000 in
set_option maxHeartbeats 4000000 in
theorem w_School_exam_b0 {Γ : Ctx} {Q : Int32 → MI → MJ → Prop}   (X : Cx Γ cX10_exam 4 RX10 6) (Y : Rt Γ (Pi Q) (Option.some Jvm.ClassFile.FieldType.int))   {I : MI} {J : MJ} (h : f_School_exam  I J Q) : Wp Γ 4 0 [(0, .ref (ad Γ 0))] [] I J := by
  unfold f_School_exam at h
  refine wp_aload_n X dX10_exam_0 0 rfl ?_
  refine gf_X10_46 (o' := 37) X sh_0 rfl dX10_exam_1 ?_
  refine gf_X10_247 X sh_37 dX10_exam_4 ?_
  refine wp_if_ne (tgt := 16) X dX10_exam_7 (by decide) (fun hc => ?_) (fun hc => ?_)
  · have h := ite_f h hc
    refine wp_aload_n X dX10_exam_16 0 rfl ?_
    refine gf_X10_18 (o' := 2) X sh_0 rfl dX10_exam_17 ?_
    refine wp_aload_n X dX10_exam_20 0 rfl ?_
    refine gf_X10_46 (o' := 37) X sh_0 rfl dX10_exam_21 ?_
    refine gf_X10_251 (o' := 38) X sh_37 rfl dX10_exam_24 ?_
    refine wp_iconst X dX10_exam_27 ic_0 ?_
    refine wp_aload_n X dX10_exam_28 0 rfl ?_
    refine gf_X10_46 (o' := 37) X sh_0 rfl dX10_exam_29 ?_
    refine gf_X10_244 (o' := 43) X sh_37 rfl dX10_exam_32 ?_
    refine wp_iconst X dX10_exam_35 ic_0 ?_
    refine cv_Chart_firstUnlike X dX10_exam_36 ml_X10_201 okM_38 okM_43 h (Nat.le_of_ble_eq_true rfl) (by decide) (fun r36 I36 J36 h => ?_)
    refine wp_lstore_n (L' := [(1, .long r36), (0, .ref (ad Γ 0))]) X dX10_exam_39 rfl (by decide) rfl ?_
    refine wp_lload_n X dX10_exam_40 0 rfl ?_
    refine cs_Words_lengthOf X dX10_exam_41 ml_X10_254  h (Nat.le_of_ble_eq_true rfl) (by decide) (fun r41 I41 J41 h => ?_)
    refine wp_istore_n (L' := [(3, .int r41), (1, .long r36), (0, .ref (ad Γ 0))]) X dX10_exam_44 rfl (by decide) rfl ?_
    refine wp_iload_n X dX10_exam_45 0 rfl ?_
    refine wp_iconst X dX10_exam_46 ic_m1 ?_
    refine wp_icmp_eq (tgt := 61) X dX10_exam_47 (by decide) (fun hc => ?_) (fun hc => ?_)
    · have h := ite_t h hc
      refine wp_sub X [2] rfl ?_
      exact w_School_exam_b61 X Y  h
    · have h := ite_f h hc
      refine wp_iload_n X dX10_exam_50 0 rfl ?_
      refine wp_aload_n X dX10_exam_51 2 rfl ?_
      refine gf_X10_46 (o' := 37) X sh_0 rfl dX10_exam_52 ?_
      refine gf_X10_257 X sh_37 dX10_exam_55 ?_
      refine wp_icmp_le (tgt := 67) X dX10_exam_58 (by decide) (fun hc => ?_) (fun hc => ?_)
      · have h := ite_t h hc
        refine wp_aload_n X dX10_exam_67 2 rfl ?_
        refine gf_X10_46 (o' := 37) X sh_0 rfl dX10_exam_68 ?_
        refine wp_lload_n X dX10_exam_71 1 rfl ?_
        refine cv_Pupil_learnWord X dX10_exam_72 ml_X10_258  h (Nat.le_of_ble_eq_true rfl) (by decide) (fun I72 J72 h => ?_)
        refine wp_aload_n X dX10_exam_75 2 rfl ?_
        refine wp_aload_n X dX10_exam_76 2 rfl ?_
        refine gf_X10_46 (o' := 37) X sh_0 rfl dX10_exam_77 ?_
        refine gf_X10_244 (o' := 43) X sh_37 rfl dX10_exam_80 ?_
        refine gf_X10_107 X okM_43.1 dX10_exam_83 ?_
        refine cv_School_done X dX10_exam_86 ml_X10_86  h (Nat.le_of_ble_eq_true rfl) (by decide) (fun r86 I86 J86 h => ?_)
        exact wp_iret X Y dX10_exam_89 ⟨_, rfl, h⟩
      · have h := ite_f h hc
        refine wp_sub X [2] rfl ?_
        exact w_School_exam_b61 X Y  h
  · have h := ite_t h hc
    refine wp_aload_n X dX10_exam_10 0 rfl ?_
    refine wp_iconst X dX10_exam_11 ic_1 ?_
    refine cv_School_refuse X dX10_exam_12 ml_X10_73  h (Nat.le_of_ble_eq_true rfl) (by decide) (fun r12 I12 J12 h => ?_)
    exact wp_iret X Y dX10_exam_15 ⟨_, rfl, h⟩

theorem c_School_exam {l : Launch} {g : GE} (hg : Inj g) {I : MI} {J : MJ} {Q : Int32 → MI → MJ → Prop}   (h : f_School_exam  I J Q) : Cm l g yX10_exam cX10_exam 4 (Option.some Jvm.ClassFile.FieldType.int) 6 [.ref (g.1 0)] I J (Pi Q) := by
  refine Cm.of (As := fun ad => [.ref (ad 0)]) hg pn_X10 (Nat.le_of_ble_eq_true rfl) ?_
  exact (fun Γ _ _ X Y => w_School_exam_b0 X Y  h)
theorem cv_School_exam {Γ : Ctx} {cc : ByteArray} {nL d pc index : Nat} {own : String} {L : List (Nat × Value)} {rest : List Value} {I : MI} {J : MJ} {Q : Int32 → MI → MJ → Prop}  (X : Cx Γ cc nL own d) (hd : decode cc pc = .ok (.invokevirtual index, 3)) (hlink : Cond.methodLink own index yX10_exam ∈ TT)  (h : f_School_exam  I J Q) (hrest : (rest.map fun v => v.category).sum ≤ 8) (hdd : 6 + 1 ≤ d) (kk : ∀ (r : Int32) (I' : MI) (J' : MJ), Q r I' J' → Wp Γ nL (pc + 3) L (.int r :: rest) I' J') : Wp Γ nL pc L (.ref (ad Γ 0) :: rest) I J :=
  wp_callV (As := []) (rest := rest) (T := TX10) (N := 9) X hd hlink mv_X10_exam sh_0 (by decide) rfl (c_School_exam X.inj  h) rfl rfl hrest hdd (fun v I' J' hv => by obtain ⟨r, rfl, hq⟩ := hv; exact kk r I' J' hq)
theorem dX10_tell_0 : decode cX10_tell 0 = .ok (.aload_n 0, 1) := by decide +kernel
theorem dX10_tell_1 : decode cX10_tell 1 = .ok (.getfield 46, 3) := by decide +kernel
theorem dX10_tell_4 : decode cX10_tell 4 = .ok (.getfield 247, 3) := by decide +kernel
theorem dX10_tell_7 : decode cX10_tell 7 = .ok (.ifCond .eq 7, 3) := by decide +kernel
theorem dX10_tell_10 : decode cX10_tell 10 = .ok (.iconst 0, 1) := by decide +kernel
theorem dX10_tell_11 : decode cX10_tell 11 = .ok (.goto 4, 3) := by decide +kernel
theorem dX10_tell_14 : decode cX10_tell 14 = .ok (.iconst 1, 1) := by decide +kernel
theorem dX10_tell_15 : decode cX10_tell 15 = .ok (.istore_n 3, 1) := by decide +kernel
theorem dX10_tell_16 : decode cX10_tell 16 = .ok (.iload_n 3, 1) := by decide +kernel
theorem dX10_tell_17 : decode cX10_tell 17 = .ok (.ifCond .ne 12, 3) := by decide +kernel
theorem dX10_tell_20 : decode cX10_tell 20 = .ok (.lload_n 1, 1) := by decide +kernel
theorem dX10_tell_21 : decode cX10_tell 21 = .ok (.invokestatic 170, 3) := by decide +kernel
theorem dX10_tell_24 : decode cX10_tell 24 = .ok (.ifCond .ne 5, 3) := by decide +kernel
theorem dX10_tell_27 : decode cX10_tell 27 = .ok (.iconst 2, 1) := by decide +kernel
theorem dX10_tell_28 : decode cX10_tell 28 = .ok (.istore_n 3, 1) := by decide +kernel
theorem dX10_tell_29 : decode cX10_tell 29 = .ok (.iload_n 3, 1) := by decide +kernel
theorem dX10_tell_30 : decode cX10_tell 30 = .ok (.ifCond .ne 31, 3) := by decide +kernel
theorem dX10_tell_33 : decode cX10_tell 33 = .ok (.aload_n 0, 1) := by decide +kernel
theorem dX10_tell_34 : decode cX10_tell 34 = .ok (.getfield 46, 3) := by decide +kernel
theorem dX10_tell_37 : decode cX10_tell 37 = .ok (.getfield 251, 3) := by decide +kernel
theorem dX10_tell_40 : decode cX10_tell 40 = .ok (.lload_n 1, 1) := by decide +kernel
theorem dX10_tell_41 : decode cX10_tell 41 = .ok (.invokevirtual 262, 3) := by decide +kernel
theorem dX10_tell_44 : decode cX10_tell 44 = .ok (.aload_n 0, 1) := by decide +kernel
theorem dX10_tell_45 : decode cX10_tell 45 = .ok (.getfield 46, 3) := by decide +kernel
theorem dX10_tell_48 : decode cX10_tell 48 = .ok (.getfield 244, 3) := by decide +kernel
theorem dX10_tell_51 : decode cX10_tell 51 = .ok (.lload_n 1, 1) := by decide +kernel
theorem dX10_tell_52 : decode cX10_tell 52 = .ok (.invokevirtual 262, 3) := by decide +kernel
theorem dX10_tell_55 : decode cX10_tell 55 = .ok (.if_icmp .ne 6, 3) := by decide +kernel
theorem dX10_tell_58 : decode cX10_tell 58 = .ok (.bipush 6, 2) := by decide +kernel
theorem dX10_tell_60 : decode cX10_tell 60 = .ok (.istore_n 3, 1) := by decide +kernel
theorem dX10_tell_61 : decode cX10_tell 61 = .ok (.iload_n 3, 1) := by decide +kernel
theorem dX10_tell_62 : decode cX10_tell 62 = .ok (.ifCond .eq 9, 3) := by decide +kernel
theorem dX10_tell_65 : decode cX10_tell 65 = .ok (.aload_n 0, 1) := by decide +kernel
theorem dX10_tell_66 : decode cX10_tell 66 = .ok (.iload_n 3, 1) := by decide +kernel
theorem dX10_tell_67 : decode cX10_tell 67 = .ok (.invokevirtual 73, 3) := by decide +kernel
theorem dX10_tell_70 : decode cX10_tell 70 = .ok (.ireturn, 1) := by decide +kernel
theorem dX10_tell_71 : decode cX10_tell 71 = .ok (.aload_n 0, 1) := by decide +kernel
theorem dX10_tell_72 : decode cX10_tell 72 = .ok (.getfield 46, 3) := by decide +kernel
theorem dX10_tell_75 : decode cX10_tell 75 = .ok (.lload_n 1, 1) := by decide +kernel
theorem dX10_tell_76 : decode cX10_tell 76 = .ok (.invokevirtual 258, 3) := by decide +kernel
theorem dX10_tell_79 : decode cX10_tell 79 = .ok (.aload_n 0, 1) := by decide +kernel
theorem dX10_tell_80 : decode cX10_tell 80 = .ok (.aload_n 0, 1) := by decide +kernel
theorem dX10_tell_81 : decode cX10_tell 81 = .ok (.getfield 46, 3) := by decide +kernel
theorem dX10_tell_84 : decode cX10_tell 84 = .ok (.getfield 244, 3) := by decide +kernel
theorem dX10_tell_87 : decode cX10_tell 87 = .ok (.getfield 107, 3) := by decide +kernel
theorem dX10_tell_90 : decode cX10_tell 90 = .ok (.invokevirtual 86, 3) := by decide +kernel
theorem dX10_tell_93 : decode cX10_tell 93 = .ok (.ireturn, 1) := by decide +kernel
def f_School_tell_b61 (x1 : Int64) (x3 : Int32) (Q : Int32 → MI → MJ → Prop) (I : MI) (J : MJ) : Prop :=
  (if x3 = 0 then f_Pupil_learnWord x1 I J (fun I76 J76 => f_School_done (I76 43 1) I76 J76 (fun r90 I90 J90 => Q r90 I90 J90)) else f_School_refuse x3 I J (fun r67 I67 J67 => Q r67 I67 J67))
def f_School_tell_b29 (x1 : Int64) (x3 : Int32) (Q : Int32 → MI → MJ → Prop) (I : MI) (J : MJ) : Prop :=
  (if x3 = 0 then f_Machine_answerTo 38 x1 I J (fun r41 I41 J41 => f_Machine_answerTo 43 x1 I41 J41 (fun r52 I52 J52 => (if r41 = r52 then f_School_tell_b61 x1 6 Q I52 J52 else f_School_tell_b61 x1 x3 Q I52 J52))) else f_School_tell_b61 x1 x3 Q I J)
def f_School_tell_b15 (x1 : Int64) (s0 : Int32) (Q : Int32 → MI → MJ → Prop) (I : MI) (J : MJ) : Prop :=
  (if s0 = 0 then f_Words_isWord x1 I J (fun r21 I21 J21 => (if r21 = 0 then f_School_tell_b29 x1 2 Q I21 J21 else f_School_tell_b29 x1 s0 Q I21 J21)) else f_School_tell_b29 x1 s0 Q I J)
def f_School_tell (x1 : Int64) (I : MI) (J : MJ) (Q : Int32 → MI → MJ → Prop) : Prop :=
  (if (I 37 0) = 0 then f_School_tell_b15 x1 1 Q I J else f_School_tell_b15 x1 0 Q I J)
set_option maxRecDepth 100000 in
set_option maxHeartbeats 4000000 in
theorem w_School_tell_b61 {Γ : Ctx} {Q : Int32 → MI → MJ → Prop} {x1 : Int64} {x3 : Int32}  (X : Cx Γ cX10_tell 4 RX10 6) (Y : Rt Γ (Pi Q) (Option.some Jvm.ClassFile.FieldType.int))   {I : MI} {J : MJ} (h : f_School_tell_b61 x1 x3 Q I J) : Wp Γ 4 61 [(0, .ref (ad Γ 0)), (1, .long x1), (3, .int x3)] [] I J := by
  unfold f_School_tell_b61 at h
  refine wp_iload_n X dX10_tell_61 2 rfl ?_
  refine wp_if_eq (tgt := 71) X dX10_tell_62 (by decide) (fun hc => ?_) (fun hc => ?_)
  · have h := ite_t h hc
    refine wp_aload_n X dX10_tell_71 0 rfl ?_
    refine gf_X10_46 (o' := 37) X sh_0 rfl dX10_tell_72 ?_
    refine wp_lload_n X dX10_tell_75 1 rfl ?_
    refine cv_Pupil_learnWord X dX10_tell_76 ml_X10_258  h (Nat.le_of_ble_eq_true rfl) (by decide) (fun I76 J76 h => ?_)
    refine wp_aload_n X dX10_tell_79 0 rfl ?_
    refine wp_aload_n X dX10_tell_80 0 rfl ?_
    refine gf_X10_46 (o' := 37) X sh_0 rfl dX10_tell_81 ?_
    refine gf_X10_244 (o' := 43) X sh_37 rfl dX10_tell_84 ?_
    refine gf_X10_107 X okM_43.1 dX10_tell_87 ?_
    refine cv_School_done X dX10_tell_90 ml_X10_86  h (Nat.le_of_ble_eq_true rfl) (by decide) (fun r90 I90 J90 h => ?_)
    exact wp_iret X Y dX10_tell_93 ⟨_, rfl, h⟩
  · have h := ite_f h hc
    refine wp_aload_n X dX10_tell_65 0 rfl ?_
    refine wp_iload_n X dX10_tell_66 2 rfl ?_
    refine cv_School_refuse X dX10_tell_67 ml_X10_73  h (Nat.le_of_ble_eq_true rfl) (by decide) (fun r67 I67 J67 h => ?_)
    exact wp_iret X Y dX10_tell_70 ⟨_, rfl, h⟩

set_option maxRecDepth 100000 in
set_option maxHeartbeats 4000000 in
theorem w_School_tell_b29 {Γ : Ctx} {Q : Int32 → MI → MJ → Prop} {x1 : Int64} {x3 : Int32}  (X : Cx Γ cX10_tell 4 RX10 6) (Y : Rt Γ (Pi Q) (Option.some Jvm.ClassFile.FieldType.int))   {I : MI} {J : MJ} (h : f_School_tell_b29 x1 x3 Q I J) : Wp Γ 4 29 [(0, .ref (ad Γ 0)), (1, .long x1), (3, .int x3)] [] I J := by
  unfold f_School_tell_b29 at h
  refine wp_iload_n X dX10_tell_29 2 rfl ?_
  refine wp_if_ne (tgt := 61) X dX10_tell_30 (by decide) (fun hc => ?_) (fun hc => ?_)
  · have h := ite_f h hc
    exact w_School_tell_b61 X Y  h
  · have h := ite_t h hc
    refine wp_aload_n X dX10_tell_33 0 rfl ?_
    refine gf_X10_46 (o' := 37) X sh_0 rfl dX10_tell_34 ?_
    refine gf_X10_251 (o' := 38) X sh_37 rfl dX10_tell_37 ?_
    refine wp_lload_n X dX10_tell_40 1 rfl ?_
    refine cv_Machine_answerTo X dX10_tell_41 ml_X10_262 okM_38 h (Nat.le_of_ble_eq_true rfl) (by decide) (fun r41 I41 J41 h => ?_)
    refine wp_aload_n X dX10_tell_44 0 rfl ?_
    refine gf_X10_46 (o' := 37) X sh_0 rfl dX10_tell_45 ?_
    refine gf_X10_244 (o' := 43) X sh_37 rfl dX10_tell_48 ?_
    refine wp_lload_n X dX10_tell_51 1 rfl ?_
    refine cv_Machine_answerTo X dX10_tell_52 ml_X10_262 okM_43 h (Nat.le_of_ble_eq_true rfl) (by decide) (fun r52 I52 J52 h => ?_)
    refine wp_icmp_ne (tgt := 61) X dX10_tell_55 (by decide) (fun hc => ?_) (fun hc => ?_)
    · have h := ite_f h hc
      exact w_School_tell_b61 X Y  h
    · have h := ite_t h hc
      refine wp_bipush X dX10_tell_58 bi_6 ?_
      refine wp_istore_n (L' := [(3, .int 6), (0, .ref (ad Γ 0)), (1, .long x1)]) X dX10_tell_60 rfl (by decide) rfl ?_
      refine wp_sub X [1, 2, 0] rfl ?_
      exact w_School_tell_b61 X Y  h

set_option maxRecDepth 100000 in
set_option maxHeartbeats 4000000 in
theorem w_School_tell_b15 {Γ : Ctx} {Q : Int32 → MI → MJ → Prop} {x1 : Int64} {s0 : Int32}  (X : Cx Γ cX10_tell 4 RX10 6) (Y : Rt Γ (Pi Q) (Option.some Jvm.ClassFile.FieldType.int))   {I : MI} {J : MJ} (h : f_School_tell_b15 x1 s0 Q I J) : Wp Γ 4 15 [(0, .ref (ad Γ 0)), (1, .long x1)] [.int s0] I J := by
  unfold f_School_tell_b15 at h
  refine wp_istore_n (L' := [(3, .int s0), (0, .ref (ad Γ 0)), (1, .long x1)]) X dX10_tell_15 rfl (by decide) rfl ?_
  refine wp_iload_n X dX10_tell_16 0 rfl ?_
  refine wp_if_ne (tgt := 29) X dX10_tell_17 (by decide) (fun hc => ?_) (fun hc => ?_)
  · have h := ite_f h hc
    refine wp_sub X [1, 2, 0] rfl ?_
    exact w_School_tell_b29 X Y  h
  · have h := ite_t h hc
    refine wp_lload_n X dX10_tell_20 2 rfl ?_
    refine cs_Words_isWord X dX10_tell_21 ml_X10_170  h (Nat.le_of_ble_eq_true rfl) (by decide) (fun r21 I21 J21 h => ?_)
    refine wp_if_ne (tgt := 29) X dX10_tell_24 (by decide) (fun hc => ?_) (fun hc => ?_)
    · have h := ite_f h hc
      refine wp_sub X [1, 2, 0] rfl ?_
      exact w_School_tell_b29 X Y  h
    · have h := ite_t h hc
      refine wp_iconst X dX10_tell_27 ic_2 ?_
      refine wp_istore_n (L' := [(3, .int 2), (0, .ref (ad Γ 0)), (1, .long x1)]) X dX10_tell_28 rfl (by decide) rfl ?_
      refine wp_sub X [1, 2, 0] rfl ?_
      exact w_School_tell_b29 X Y  h

set_option maxRecDepth 100000 in
set_option maxHeartbeats 4000000 in
theorem w_School_tell_b0 {Γ : Ctx} {Q : Int32 → MI → MJ → Prop} {x1 : Int64}  (X : Cx Γ cX10_tell 4 RX10 6) (Y : Rt Γ (Pi Q) (Option.some Jvm.ClassFile.FieldType.int))   {I : MI} {J : MJ} (h : f_School_tell x1 I J Q) : Wp Γ 4 0 [(0, .ref (ad Γ 0)), (1, .long x1)] [] I J := by
  unfold f_School_tell at h
  refine wp_aload_n X dX10_tell_0 0 rfl ?_
  refine gf_X10_46 (o' := 37) X sh_0 rfl dX10_tell_1 ?_
  refine gf_X10_247 X sh_37 dX10_tell_4 ?_
  refine wp_if_eq (tgt := 14) X dX10_tell_7 (by decide) (fun hc => ?_) (fun hc => ?_)
  · have h := ite_t h hc
    refine wp_iconst X dX10_tell_14 ic_1 ?_
    exact w_School_tell_b15 X Y  h
  · have h := ite_f h hc
    refine wp_iconst X dX10_tell_10 ic_0 ?_
    refine wp_goto (tgt := 15) X dX10_tell_11 (by decide) ?_
    exact w_School_tell_b15 X Y  h

theorem c_School_tell {l : Launch} {g : GE} (hg : Inj g) {I : MI} {J : MJ} {Q : Int32 → MI → MJ → Prop} {x1 : Int64}  (h : f_School_tell x1 I J Q) : Cm l g yX10_tell cX10_tell 4 (Option.some Jvm.ClassFile.FieldType.int) 6 [.ref (g.1 0), .long x1] I J (Pi Q) := by
  refine Cm.of (As := fun ad => [.ref (ad 0), .long x1]) hg pn_X10 (Nat.le_of_ble_eq_true rfl) ?_
  exact (fun Γ _ _ X Y => w_School_tell_b0 X Y  h)
theorem cv_School_tell {Γ : Ctx} {cc : ByteArray} {nL d pc index : Nat} {own : String} {L : List (Nat × Value)} {rest : List Value} {I : MI} {J : MJ} {Q : Int32 → MI → MJ → Prop} {x1 : Int64} (X : Cx Γ cc nL own d) (hd : decode cc pc = .ok (.invokevirtual index, 3)) (hlink : Cond.methodLink own index yX10_tell ∈ TT)  (h : f_School_tell x1 I J Q) (hrest : (rest.map fun v => v.category).sum ≤ 8) (hdd : 6 + 1 ≤ d) (kk : ∀ (r : Int32) (I' : MI) (J' : MJ), Q r I' J' → Wp Γ nL (pc + 3) L (.int r :: rest) I' J') : Wp Γ nL pc L (.long x1 :: .ref (ad Γ 0) :: rest) I J :=
  wp_callV (As := [.long x1]) (rest := rest) (T := TX10) (N := 9) X hd hlink mv_X10_tell sh_0 (by decide) rfl (c_School_tell X.inj  h) rfl rfl hrest hdd (fun v I' J' hv => by obtain ⟨r, rfl, hq⟩ := hv; exact kk r I' J' hq)
theorem dX10_guess_0 : decode cX10_guess 0 = .ok (.aload_n 0, 1) := by decide +kernel
theorem dX10_guess_1 : decode cX10_guess 1 = .ok (.getfield 46, 3) := by decide +kernel
theorem dX10_guess_4 : decode cX10_guess 4 = .ok (.getfield 247, 3) := by decide +kernel
theorem dX10_guess_7 : decode cX10_guess 7 = .ok (.ifCond .eq 10, 3) := by decide +kernel
theorem dX10_guess_10 : decode cX10_guess 10 = .ok (.iload_n 1, 1) := by decide +kernel
theorem dX10_guess_11 : decode cX10_guess 11 = .ok (.invokestatic 69, 3) := by decide +kernel
theorem dX10_guess_14 : decode cX10_guess 14 = .ok (.goto 4, 3) := by decide +kernel
theorem dX10_guess_17 : decode cX10_guess 17 = .ok (.iconst 1, 1) := by decide +kernel
theorem dX10_guess_18 : decode cX10_guess 18 = .ok (.istore_n 2, 1) := by decide +kernel
theorem dX10_guess_19 : decode cX10_guess 19 = .ok (.iload_n 2, 1) := by decide +kernel
theorem dX10_guess_20 : decode cX10_guess 20 = .ok (.ifCond .eq 9, 3) := by decide +kernel
theorem dX10_guess_23 : decode cX10_guess 23 = .ok (.aload_n 0, 1) := by decide +kernel
theorem dX10_guess_24 : decode cX10_guess 24 = .ok (.iload_n 2, 1) := by decide +kernel
theorem dX10_guess_25 : decode cX10_guess 25 = .ok (.invokevirtual 73, 3) := by decide +kernel
theorem dX10_guess_28 : decode cX10_guess 28 = .ok (.ireturn, 1) := by decide +kernel
theorem dX10_guess_29 : decode cX10_guess 29 = .ok (.aload_n 0, 1) := by decide +kernel
theorem dX10_guess_30 : decode cX10_guess 30 = .ok (.aload_n 0, 1) := by decide +kernel
theorem dX10_guess_31 : decode cX10_guess 31 = .ok (.getfield 46, 3) := by decide +kernel
theorem dX10_guess_34 : decode cX10_guess 34 = .ok (.getfield 244, 3) := by decide +kernel
theorem dX10_guess_37 : decode cX10_guess 37 = .ok (.iload_n 1, 1) := by decide +kernel
theorem dX10_guess_38 : decode cX10_guess 38 = .ok (.invokevirtual 209, 3) := by decide +kernel
theorem dX10_guess_41 : decode cX10_guess 41 = .ok (.ireturn, 1) := by decide +kernel
def f_School_guess_b18 (x1 : Int32) (s0 : Int32) (Q : Int32 → MI → MJ → Prop) (I : MI) (J : MJ) : Prop :=
  (if s0 = 0 then f_School_layMachine 43 x1 I J (fun r38 I38 J38 => Q r38 I38 J38) else f_School_refuse s0 I J (fun r25 I25 J25 => Q r25 I25 J25))
def f_School_guess (x1 : Int32) (I : MI) (J : MJ) (Q : Int32 → MI → MJ → Prop) : Prop :=
  (if (I 37 0) = 0 then f_School_guess_b18 x1 1 Q I J else f_School_placeFault x1 I J (fun r11 I11 J11 => f_School_guess_b18 x1 r11 Q I11 J11))
set_option maxRecDepth 100000 in
set_option maxHeartbeats 4000000 in
theorem w_School_guess_b18 {Γ : Ctx} {Q : Int32 → MI → MJ → Prop} {x1 : Int32} {s0 : Int32}  (X : Cx Γ cX10_guess 3 RX10 4) (Y : Rt Γ (Pi Q) (Option.some Jvm.ClassFile.FieldType.int))   {I : MI} {J : MJ} (h : f_School_guess_b18 x1 s0 Q I J) : Wp Γ 3 18 [(0, .ref (ad Γ 0)), (1, .int x1)] [.int s0] I J := by
  unfold f_School_guess_b18 at h
  refine wp_istore_n (L' := [(2, .int s0), (0, .ref (ad Γ 0)), (1, .int x1)]) X dX10_guess_18 rfl (by decide) rfl ?_
  refine wp_iload_n X dX10_guess_19 0 rfl ?_
  refine wp_if_eq (tgt := 29) X dX10_guess_20 (by decide) (fun hc => ?_) (fun hc => ?_)
  · have h := ite_t h hc
    refine wp_aload_n X dX10_guess_29 1 rfl ?_
    refine wp_aload_n X dX10_guess_30 1 rfl ?_
    refine gf_X10_46 (o' := 37) X sh_0 rfl dX10_guess_31 ?_
    refine gf_X10_244 (o' := 43) X sh_37 rfl dX10_guess_34 ?_
    refine wp_iload_n X dX10_guess_37 2 rfl ?_
    refine cv_School_layMachine X dX10_guess_38 ml_X10_209 okM_43 h (Nat.le_of_ble_eq_true rfl) (by decide) (fun r38 I38 J38 h => ?_)
    exact wp_iret X Y dX10_guess_41 ⟨_, rfl, h⟩
  · have h := ite_f h hc
    refine wp_aload_n X dX10_guess_23 1 rfl ?_
    refine wp_iload_n X dX10_guess_24 0 rfl ?_
    refine cv_School_refuse X dX10_guess_25 ml_X10_73  h (Nat.le_of_ble_eq_true rfl) (by decide) (fun r25 I25 J25 h => ?_)
    exact wp_iret X Y dX10_guess_28 ⟨_, rfl, h⟩

set_option maxRecDepth 100000 in
set_option maxHeartbeats 4000000 in
theorem w_School_guess_b0 {Γ : Ctx} {Q : Int32 → MI → MJ → Prop} {x1 : Int32}  (X : Cx Γ cX10_guess 3 RX10 4) (Y : Rt Γ (Pi Q) (Option.some Jvm.ClassFile.FieldType.int))   {I : MI} {J : MJ} (h : f_School_guess x1 I J Q) : Wp Γ 3 0 [(0, .ref (ad Γ 0)), (1, .int x1)] [] I J := by
  unfold f_School_guess at h
  refine wp_aload_n X dX10_guess_0 0 rfl ?_
  refine gf_X10_46 (o' := 37) X sh_0 rfl dX10_guess_1 ?_
  refine gf_X10_247 X sh_37 dX10_guess_4 ?_
  refine wp_if_eq (tgt := 17) X dX10_guess_7 (by decide) (fun hc => ?_) (fun hc => ?_)
  · have h := ite_t h hc
    refine wp_iconst X dX10_guess_17 ic_1 ?_
    exact w_School_guess_b18 X Y  h
  · have h := ite_f h hc
    refine wp_iload_n X dX10_guess_10 1 rfl ?_
    refine cs_School_placeFault X dX10_guess_11 ml_X10_69  h (Nat.le_of_ble_eq_true rfl) (by decide) (fun r11 I11 J11 h => ?_)
    refine wp_goto (tgt := 18) X dX10_guess_14 (by decide) ?_
    exact w_School_guess_b18 X Y  h

theorem c_School_guess {l : Launch} {g : GE} (hg : Inj g) {I : MI} {J : MJ} {Q : Int32 → MI → MJ → Prop} {x1 : Int32}  (h : f_School_guess x1 I J Q) : Cm l g yX10_guess cX10_guess 3 (Option.some Jvm.ClassFile.FieldType.int) 4 [.ref (g.1 0), .int x1] I J (Pi Q) := by
  refine Cm.of (As := fun ad => [.ref (ad 0), .int x1]) hg pn_X10 (Nat.le_of_ble_eq_true rfl) ?_
  exact (fun Γ _ _ X Y => w_School_guess_b0 X Y  h)
theorem cv_School_guess {Γ : Ctx} {cc : ByteArray} {nL d pc index : Nat} {own : String} {L : List (Nat × Value)} {rest : List Value} {I : MI} {J : MJ} {Q : Int32 → MI → MJ → Prop} {x1 : Int32} (X : Cx Γ cc nL own d) (hd : decode cc pc = .ok (.invokevirtual index, 3)) (hlink : Cond.methodLink own index yX10_guess ∈ TT)  (h : f_School_guess x1 I J Q) (hrest : (rest.map fun v => v.category).sum ≤ 8) (hdd : 4 + 1 ≤ d) (kk : ∀ (r : Int32) (I' : MI) (J' : MJ), Q r I' J' → Wp Γ nL (pc + 3) L (.int r :: rest) I' J') : Wp Γ nL pc L (.int x1 :: .ref (ad Γ 0) :: rest) I J :=
  wp_callV (As := [.int x1]) (rest := rest) (T := TX10) (N := 9) X hd hlink mv_X10_guess sh_0 (by decide) rfl (c_School_guess X.inj  h) rfl rfl hrest hdd (fun v I' J' hv => by obtain ⟨r, rfl, hq⟩ := hv; exact kk r I' J' hq)
theorem dX10_ahead_0 : decode cX10_ahead 0 = .ok (.iload_n 1, 1) := by decide +kernel
theorem dX10_ahead_1 : decode cX10_ahead 1 = .ok (.ifCond .lt 26, 3) := by decide +kernel
theorem dX10_ahead_4 : decode cX10_ahead 4 = .ok (.iload_n 1, 1) := by decide +kernel
theorem dX10_ahead_5 : decode cX10_ahead 5 = .ok (.aload_n 0, 1) := by decide +kernel
theorem dX10_ahead_6 : decode cX10_ahead 6 = .ok (.getfield 46, 3) := by decide +kernel
theorem dX10_ahead_9 : decode cX10_ahead 9 = .ok (.getfield 263, 3) := by decide +kernel
theorem dX10_ahead_12 : decode cX10_ahead 12 = .ok (.if_icmp .ge 15, 3) := by decide +kernel
theorem dX10_ahead_15 : decode cX10_ahead 15 = .ok (.aload_n 0, 1) := by decide +kernel
theorem dX10_ahead_16 : decode cX10_ahead 16 = .ok (.getfield 46, 3) := by decide +kernel
theorem dX10_ahead_19 : decode cX10_ahead 19 = .ok (.getfield 266, 3) := by decide +kernel
theorem dX10_ahead_22 : decode cX10_ahead 22 = .ok (.iload_n 1, 1) := by decide +kernel
theorem dX10_ahead_23 : decode cX10_ahead 23 = .ok (.laload, 1) := by decide +kernel
theorem dX10_ahead_24 : decode cX10_ahead 24 = .ok (.goto 6, 3) := by decide +kernel
theorem dX10_ahead_27 : decode cX10_ahead 27 = .ok (.ldc2_w 183, 3) := by decide +kernel
theorem dX10_ahead_30 : decode cX10_ahead 30 = .ok (.lreturn, 1) := by decide +kernel
def f_School_ahead (x1 : Int32) (I : MI) (J : MJ) (Q : Int64 → MI → MJ → Prop) : Prop :=
  (if x1 < 0 then Q (-1) I J else (if (I 37 2) ≤ x1 then Q (-1) I J else vp_in x1 14 ∧ Q (J 48 x1.toNatClampNeg) I J))
set_option maxRecDepth 100000 in
set_option maxHeartbeats 4000000 in
theorem w_School_ahead_b0 {Γ : Ctx} {Q : Int64 → MI → MJ → Prop} {x1 : Int32}  (X : Cx Γ cX10_ahead 2 RX10 0) (Y : Rt Γ (Pl Q) (Option.some Jvm.ClassFile.FieldType.long))   {I : MI} {J : MJ} (h : f_School_ahead x1 I J Q) : Wp Γ 2 0 [(0, .ref (ad Γ 0)), (1, .int x1)] [] I J := by
  unfold f_School_ahead at h
  refine wp_iload_n X dX10_ahead_0 1 rfl ?_
  refine wp_if_lt (tgt := 27) X dX10_ahead_1 (by decide) (fun hc => ?_) (fun hc => ?_)
  · have h := ite_t h hc
    refine wp_ldc2 X kl_X10_183 dX10_ahead_27 ?_
    exact wp_lret X Y dX10_ahead_30 ⟨_, rfl, h⟩
  · have h := ite_f h hc
    refine wp_iload_n X dX10_ahead_4 1 rfl ?_
    refine wp_aload_n X dX10_ahead_5 0 rfl ?_
    refine gf_X10_46 (o' := 37) X sh_0 rfl dX10_ahead_6 ?_
    refine gf_X10_263 X sh_37 dX10_ahead_9 ?_
    refine wp_icmp_ge (tgt := 27) X dX10_ahead_12 (by decide) (fun hc => ?_) (fun hc => ?_)
    · have h := ite_t h hc
      refine wp_ldc2 X kl_X10_183 dX10_ahead_27 ?_
      exact wp_lret X Y dX10_ahead_30 ⟨_, rfl, h⟩
    · have h := ite_f h hc
      refine wp_aload_n X dX10_ahead_15 0 rfl ?_
      refine gf_X10_46 (o' := 37) X sh_0 rfl dX10_ahead_16 ?_
      refine gf_X10_266 (o' := 48) X sh_37 rfl dX10_ahead_19 ?_
      refine wp_iload_n X dX10_ahead_22 1 rfl ?_
      obtain ⟨hb23, h⟩ := h
      refine wp_lald X sh_48 hb23 dX10_ahead_23 ?_
      refine wp_goto (tgt := 30) X dX10_ahead_24 (by decide) ?_
      exact wp_lret X Y dX10_ahead_30 ⟨_, rfl, h⟩

theorem c_School_ahead {l : Launch} {g : GE} (hg : Inj g) {I : MI} {J : MJ} {Q : Int64 → MI → MJ → Prop} {x1 : Int32}  (h : f_School_ahead x1 I J Q) : Cm l g yX10_ahead cX10_ahead 2 (Option.some Jvm.ClassFile.FieldType.long) 0 [.ref (g.1 0), .int x1] I J (Pl Q) := by
  refine Cm.of (As := fun ad => [.ref (ad 0), .int x1]) hg pn_X10 (Nat.le_of_ble_eq_true rfl) ?_
  exact (fun Γ _ _ X Y => w_School_ahead_b0 X Y  h)
theorem cv_School_ahead {Γ : Ctx} {cc : ByteArray} {nL d pc index : Nat} {own : String} {L : List (Nat × Value)} {rest : List Value} {I : MI} {J : MJ} {Q : Int64 → MI → MJ → Prop} {x1 : Int32} (X : Cx Γ cc nL own d) (hd : decode cc pc = .ok (.invokevirtual index, 3)) (hlink : Cond.methodLink own index yX10_ahead ∈ TT)  (h : f_School_ahead x1 I J Q) (hrest : (rest.map fun v => v.category).sum ≤ 8) (hdd : 0 + 1 ≤ d) (kk : ∀ (r : Int64) (I' : MI) (J' : MJ), Q r I' J' → Wp Γ nL (pc + 3) L (.long r :: rest) I' J') : Wp Γ nL pc L (.int x1 :: .ref (ad Γ 0) :: rest) I J :=
  wp_callV (As := [.int x1]) (rest := rest) (T := TX10) (N := 9) X hd hlink mv_X10_ahead sh_0 (by decide) rfl (c_School_ahead X.inj  h) rfl rfl hrest hdd (fun v I' J' hv => by obtain ⟨r, rfl, hq⟩ := hv; exact kk r I' J' hq)
theorem dX10_behind_0 : decode cX10_behind 0 = .ok (.iload_n 1, 1) := by decide +kernel
theorem dX10_behind_1 : decode cX10_behind 1 = .ok (.ifCond .lt 26, 3) := by decide +kernel
theorem dX10_behind_4 : decode cX10_behind 4 = .ok (.iload_n 1, 1) := by decide +kernel
theorem dX10_behind_5 : decode cX10_behind 5 = .ok (.aload_n 0, 1) := by decide +kernel
theorem dX10_behind_6 : decode cX10_behind 6 = .ok (.getfield 46, 3) := by decide +kernel
theorem dX10_behind_9 : decode cX10_behind 9 = .ok (.getfield 270, 3) := by decide +kernel
theorem dX10_behind_12 : decode cX10_behind 12 = .ok (.if_icmp .ge 15, 3) := by decide +kernel
theorem dX10_behind_15 : decode cX10_behind 15 = .ok (.aload_n 0, 1) := by decide +kernel
theorem dX10_behind_16 : decode cX10_behind 16 = .ok (.getfield 46, 3) := by decide +kernel
theorem dX10_behind_19 : decode cX10_behind 19 = .ok (.getfield 273, 3) := by decide +kernel
theorem dX10_behind_22 : decode cX10_behind 22 = .ok (.iload_n 1, 1) := by decide +kernel
theorem dX10_behind_23 : decode cX10_behind 23 = .ok (.laload, 1) := by decide +kernel
theorem dX10_behind_24 : decode cX10_behind 24 = .ok (.goto 6, 3) := by decide +kernel
theorem dX10_behind_27 : decode cX10_behind 27 = .ok (.ldc2_w 183, 3) := by decide +kernel
theorem dX10_behind_30 : decode cX10_behind 30 = .ok (.lreturn, 1) := by decide +kernel
def f_School_behind (x1 : Int32) (I : MI) (J : MJ) (Q : Int64 → MI → MJ → Prop) : Prop :=
  (if x1 < 0 then Q (-1) I J else (if (I 37 3) ≤ x1 then Q (-1) I J else vp_in x1 14 ∧ Q (J 49 x1.toNatClampNeg) I J))
set_option maxRecDepth 100000 in
set_option maxHeartbeats 4000000 in
theorem w_School_behind_b0 {Γ : Ctx} {Q : Int64 → MI → MJ → Prop} {x1 : Int32}  (X : Cx Γ cX10_behind 2 RX10 0) (Y : Rt Γ (Pl Q) (Option.some Jvm.ClassFile.FieldType.long))   {I : MI} {J : MJ} (h : f_School_behind x1 I J Q) : Wp Γ 2 0 [(0, .ref (ad Γ 0)), (1, .int x1)] [] I J := by
  unfold f_School_behind at h
  refine wp_iload_n X dX10_behind_0 1 rfl ?_
  refine wp_if_lt (tgt := 27) X dX10_behind_1 (by decide) (fun hc => ?_) (fun hc => ?_)
  · have h := ite_t h hc
    refine wp_ldc2 X kl_X10_183 dX10_behind_27 ?_
    exact wp_lret X Y dX10_behind_30 ⟨_, rfl, h⟩
  · have h := ite_f h hc
    refine wp_iload_n X dX10_behind_4 1 rfl ?_
    refine wp_aload_n X dX10_behind_5 0 rfl ?_
    refine gf_X10_46 (o' := 37) X sh_0 rfl dX10_behind_6 ?_
    refine gf_X10_270 X sh_37 dX10_behind_9 ?_
    refine wp_icmp_ge (tgt := 27) X dX10_behind_12 (by decide) (fun hc => ?_) (fun hc => ?_)
    · have h := ite_t h hc
      refine wp_ldc2 X kl_X10_183 dX10_behind_27 ?_
      exact wp_lret X Y dX10_behind_30 ⟨_, rfl, h⟩
    · have h := ite_f h hc
      refine wp_aload_n X dX10_behind_15 0 rfl ?_
      refine gf_X10_46 (o' := 37) X sh_0 rfl dX10_behind_16 ?_
      refine gf_X10_273 (o' := 49) X sh_37 rfl dX10_behind_19 ?_
      refine wp_iload_n X dX10_behind_22 1 rfl ?_
      obtain ⟨hb23, h⟩ := h
      refine wp_lald X sh_49 hb23 dX10_behind_23 ?_
      refine wp_goto (tgt := 30) X dX10_behind_24 (by decide) ?_
      exact wp_lret X Y dX10_behind_30 ⟨_, rfl, h⟩

theorem c_School_behind {l : Launch} {g : GE} (hg : Inj g) {I : MI} {J : MJ} {Q : Int64 → MI → MJ → Prop} {x1 : Int32}  (h : f_School_behind x1 I J Q) : Cm l g yX10_behind cX10_behind 2 (Option.some Jvm.ClassFile.FieldType.long) 0 [.ref (g.1 0), .int x1] I J (Pl Q) := by
  refine Cm.of (As := fun ad => [.ref (ad 0), .int x1]) hg pn_X10 (Nat.le_of_ble_eq_true rfl) ?_
  exact (fun Γ _ _ X Y => w_School_behind_b0 X Y  h)
theorem cv_School_behind {Γ : Ctx} {cc : ByteArray} {nL d pc index : Nat} {own : String} {L : List (Nat × Value)} {rest : List Value} {I : MI} {J : MJ} {Q : Int64 → MI → MJ → Prop} {x1 : Int32} (X : Cx Γ cc nL own d) (hd : decode cc pc = .ok (.invokevirtual index, 3)) (hlink : Cond.methodLink own index yX10_behind ∈ TT)  (h : f_School_behind x1 I J Q) (hrest : (rest.map fun v => v.category).sum ≤ 8) (hdd : 0 + 1 ≤ d) (kk : ∀ (r : Int64) (I' : MI) (J' : MJ), Q r I' J' → Wp Γ nL (pc + 3) L (.long r :: rest) I' J') : Wp Γ nL pc L (.int x1 :: .ref (ad Γ 0) :: rest) I J :=
  wp_callV (As := [.int x1]) (rest := rest) (T := TX10) (N := 9) X hd hlink mv_X10_behind sh_0 (by decide) rfl (c_School_behind X.inj  h) rfl rfl hrest hdd (fun v I' J' hv => by obtain ⟨r, rfl, hq⟩ := hv; exact kk r I' J' hq)
theorem dX5_cellOf_0 : decode cX5_cellOf 0 = .ok (.iload_n 1, 1) := by decide +kernel
theorem dX5_cellOf_1 : decode cX5_cellOf 1 = .ok (.ifCond .lt 39, 3) := by decide +kernel
theorem dX5_cellOf_4 : decode cX5_cellOf 4 = .ok (.iload_n 1, 1) := by decide +kernel
theorem dX5_cellOf_5 : decode cX5_cellOf 5 = .ok (.aload_n 0, 1) := by decide +kernel
theorem dX5_cellOf_6 : decode cX5_cellOf 6 = .ok (.getfield 47, 3) := by decide +kernel
theorem dX5_cellOf_9 : decode cX5_cellOf 9 = .ok (.if_icmp .ge 31, 3) := by decide +kernel
theorem dX5_cellOf_12 : decode cX5_cellOf 12 = .ok (.iload_n 3, 1) := by decide +kernel
theorem dX5_cellOf_13 : decode cX5_cellOf 13 = .ok (.ifCond .lt 27, 3) := by decide +kernel
theorem dX5_cellOf_16 : decode cX5_cellOf 16 = .ok (.iload_n 3, 1) := by decide +kernel
theorem dX5_cellOf_17 : decode cX5_cellOf 17 = .ok (.aload_n 0, 1) := by decide +kernel
theorem dX5_cellOf_18 : decode cX5_cellOf 18 = .ok (.getfield 50, 3) := by decide +kernel
theorem dX5_cellOf_21 : decode cX5_cellOf 21 = .ok (.if_icmp .ge 19, 3) := by decide +kernel
theorem dX5_cellOf_24 : decode cX5_cellOf 24 = .ok (.iload_n 2, 1) := by decide +kernel
theorem dX5_cellOf_25 : decode cX5_cellOf 25 = .ok (.iconst (-1), 1) := by decide +kernel
theorem dX5_cellOf_26 : decode cX5_cellOf 26 = .ok (.if_icmp .lt 14, 3) := by decide +kernel
theorem dX5_cellOf_29 : decode cX5_cellOf 29 = .ok (.iload_n 2, 1) := by decide +kernel
theorem dX5_cellOf_30 : decode cX5_cellOf 30 = .ok (.aload_n 0, 1) := by decide +kernel
theorem dX5_cellOf_31 : decode cX5_cellOf 31 = .ok (.getfield 12, 3) := by decide +kernel
theorem dX5_cellOf_34 : decode cX5_cellOf 34 = .ok (.getfield 84, 3) := by decide +kernel
theorem dX5_cellOf_37 : decode cX5_cellOf 37 = .ok (.if_icmp .lt 5, 3) := by decide +kernel
theorem dX5_cellOf_40 : decode cX5_cellOf 40 = .ok (.iconst (-1), 1) := by decide +kernel
theorem dX5_cellOf_41 : decode cX5_cellOf 41 = .ok (.ireturn, 1) := by decide +kernel
theorem dX5_cellOf_42 : decode cX5_cellOf 42 = .ok (.iload_n 2, 1) := by decide +kernel
theorem dX5_cellOf_43 : decode cX5_cellOf 43 = .ok (.iconst (-1), 1) := by decide +kernel
theorem dX5_cellOf_44 : decode cX5_cellOf 44 = .ok (.if_icmp .ne 12, 3) := by decide +kernel
theorem dX5_cellOf_47 : decode cX5_cellOf 47 = .ok (.aload_n 0, 1) := by decide +kernel
theorem dX5_cellOf_48 : decode cX5_cellOf 48 = .ok (.getfield 28, 3) := by decide +kernel
theorem dX5_cellOf_51 : decode cX5_cellOf 51 = .ok (.iload_n 1, 1) := by decide +kernel
theorem dX5_cellOf_52 : decode cX5_cellOf 52 = .ok (.iaload, 1) := by decide +kernel
theorem dX5_cellOf_53 : decode cX5_cellOf 53 = .ok (.goto 17, 3) := by decide +kernel
theorem dX5_cellOf_56 : decode cX5_cellOf 56 = .ok (.aload_n 0, 1) := by decide +kernel
theorem dX5_cellOf_57 : decode cX5_cellOf 57 = .ok (.getfield 12, 3) := by decide +kernel
theorem dX5_cellOf_60 : decode cX5_cellOf 60 = .ok (.aload_n 0, 1) := by decide +kernel
theorem dX5_cellOf_61 : decode cX5_cellOf 61 = .ok (.getfield 28, 3) := by decide +kernel
theorem dX5_cellOf_64 : decode cX5_cellOf 64 = .ok (.iload_n 1, 1) := by decide +kernel
theorem dX5_cellOf_65 : decode cX5_cellOf 65 = .ok (.iaload, 1) := by decide +kernel
theorem dX5_cellOf_66 : decode cX5_cellOf 66 = .ok (.iload_n 2, 1) := by decide +kernel
theorem dX5_cellOf_67 : decode cX5_cellOf 67 = .ok (.invokevirtual 87, 3) := by decide +kernel
theorem dX5_cellOf_70 : decode cX5_cellOf 70 = .ok (.istore 4, 2) := by decide +kernel
theorem dX5_cellOf_72 : decode cX5_cellOf 72 = .ok (.iload 4, 2) := by decide +kernel
theorem dX5_cellOf_74 : decode cX5_cellOf 74 = .ok (.iconst (-1), 1) := by decide +kernel
theorem dX5_cellOf_75 : decode cX5_cellOf 75 = .ok (.if_icmp .ne 8, 3) := by decide +kernel
theorem dX5_cellOf_78 : decode cX5_cellOf 78 = .ok (.bipush 8, 2) := by decide +kernel
theorem dX5_cellOf_80 : decode cX5_cellOf 80 = .ok (.goto 15, 3) := by decide +kernel
theorem dX5_cellOf_83 : decode cX5_cellOf 83 = .ok (.aload_n 0, 1) := by decide +kernel
theorem dX5_cellOf_84 : decode cX5_cellOf 84 = .ok (.getfield 32, 3) := by decide +kernel
theorem dX5_cellOf_87 : decode cX5_cellOf 87 = .ok (.iload 4, 2) := by decide +kernel
theorem dX5_cellOf_89 : decode cX5_cellOf 89 = .ok (.bipush 14, 2) := by decide +kernel
theorem dX5_cellOf_91 : decode cX5_cellOf 91 = .ok (.imul, 1) := by decide +kernel
theorem dX5_cellOf_92 : decode cX5_cellOf 92 = .ok (.iload_n 3, 1) := by decide +kernel
theorem dX5_cellOf_93 : decode cX5_cellOf 93 = .ok (.iadd, 1) := by decide +kernel
theorem dX5_cellOf_94 : decode cX5_cellOf 94 = .ok (.iaload, 1) := by decide +kernel
theorem dX5_cellOf_95 : decode cX5_cellOf 95 = .ok (.ireturn, 1) := by decide +kernel
def f_Pupil_cellOf_b70 (x3 : Int32) (s0 : Int32) (Q : Int32 → MI → MJ → Prop) (I : MI) (J : MJ) : Prop :=
  (if s0 = (-1) then Q 8 I J else vp_in ((s0 * 14) + x3) 196 ∧ Q (I 51 ((s0 * 14) + x3).toNatClampNeg) I J)
def f_Pupil_cellOf (x1 : Int32) (x2 : Int32) (x3 : Int32) (I : MI) (J : MJ) (Q : Int32 → MI → MJ → Prop) : Prop :=
  (if x1 < 0 then Q (-1) I J else (if (I 37 2) ≤ x1 then Q (-1) I J else (if x3 < 0 then Q (-1) I J else (if (I 37 3) ≤ x3 then Q (-1) I J else (if x2 < (-1) then Q (-1) I J else (if x2 < (I 38 2) then (if x2 = (-1) then vp_in x1 14 ∧ f_Pupil_cellOf_b70 x3 (I 50 x1.toNatClampNeg) Q I J else vp_in x1 14 ∧ f_Machine_leadOf 38 (I 50 x1.toNatClampNeg) x2 I J (fun r67 I67 J67 => f_Pupil_cellOf_b70 x3 r67 Q I67 J67)) else Q (-1) I J))))))
set_option maxRecDepth 100000 in
set_option maxHeartbeats 4000000 in
theorem w_Pupil_cellOf_b70 {Γ : Ctx} {Q : Int32 → MI → MJ → Prop} {x3 : Int32} {s0 : Int32}  (X : Cx Γ cX5_cellOf 5 RX5 2) (Y : Rt Γ (Pi Q) (Option.some Jvm.ClassFile.FieldType.int))   {I : MI} {J : MJ} (h : f_Pupil_cellOf_b70 x3 s0 Q I J) : Wp Γ 5 70 [(0, .ref (ad Γ 37)), (3, .int x3)] [.int s0] I J := by
  unfold f_Pupil_cellOf_b70 at h
  refine wp_istore (L' := [(4, .int s0), (0, .ref (ad Γ 37)), (3, .int x3)]) X dX5_cellOf_70 (by decide) rfl ?_
  refine wp_iload X dX5_cellOf_72 0 rfl ?_
  refine wp_iconst X dX5_cellOf_74 ic_m1 ?_
  refine wp_icmp_ne (tgt := 83) X dX5_cellOf_75 (by decide) (fun hc => ?_) (fun hc => ?_)
  · have h := ite_f h hc
    refine wp_aload_n X dX5_cellOf_83 1 rfl ?_
    refine gf_X5_32 (o' := 51) X sh_37 rfl dX5_cellOf_84 ?_
    refine wp_iload X dX5_cellOf_87 0 rfl ?_
    refine wp_bipush X dX5_cellOf_89 bi_14 ?_
    refine wp_imul X dX5_cellOf_91 ?_
    refine wp_iload_n X dX5_cellOf_92 2 rfl ?_
    refine wp_iadd X dX5_cellOf_93 ?_
    obtain ⟨hb94, h⟩ := h
    refine wp_iald X sh_51 hb94 dX5_cellOf_94 ?_
    exact wp_iret X Y dX5_cellOf_95 ⟨_, rfl, h⟩
  · have h := ite_t h hc
    refine wp_bipush X dX5_cellOf_78 bi_8 ?_
    refine wp_goto (tgt := 95) X dX5_cellOf_80 (by decide) ?_
    exact wp_iret X Y dX5_cellOf_95 ⟨_, rfl, h⟩

set_option maxRecDepth 100000 in
set_option maxHeartbeats 4000000 in
theorem w_Pupil_cellOf_b0 {Γ : Ctx} {Q : Int32 → MI → MJ → Prop} {x1 : Int32} {x2 : Int32} {x3 : Int32}  (X : Cx Γ cX5_cellOf 5 RX5 2) (Y : Rt Γ (Pi Q) (Option.some Jvm.ClassFile.FieldType.int))   {I : MI} {J : MJ} (h : f_Pupil_cellOf x1 x2 x3 I J Q) : Wp Γ 5 0 [(0, .ref (ad Γ 37)), (1, .int x1), (2, .int x2), (3, .int x3)] [] I J := by
  unfold f_Pupil_cellOf at h
  refine wp_iload_n X dX5_cellOf_0 1 rfl ?_
  refine wp_if_lt (tgt := 40) X dX5_cellOf_1 (by decide) (fun hc => ?_) (fun hc => ?_)
  · have h := ite_t h hc
    refine wp_iconst X dX5_cellOf_40 ic_m1 ?_
    exact wp_iret X Y dX5_cellOf_41 ⟨_, rfl, h⟩
  · have h := ite_f h hc
    refine wp_iload_n X dX5_cellOf_4 1 rfl ?_
    refine wp_aload_n X dX5_cellOf_5 0 rfl ?_
    refine gf_X5_47 X sh_37 dX5_cellOf_6 ?_
    refine wp_icmp_ge (tgt := 40) X dX5_cellOf_9 (by decide) (fun hc => ?_) (fun hc => ?_)
    · have h := ite_t h hc
      refine wp_iconst X dX5_cellOf_40 ic_m1 ?_
      exact wp_iret X Y dX5_cellOf_41 ⟨_, rfl, h⟩
    · have h := ite_f h hc
      refine wp_iload_n X dX5_cellOf_12 3 rfl ?_
      refine wp_if_lt (tgt := 40) X dX5_cellOf_13 (by decide) (fun hc => ?_) (fun hc => ?_)
      · have h := ite_t h hc
        refine wp_iconst X dX5_cellOf_40 ic_m1 ?_
        exact wp_iret X Y dX5_cellOf_41 ⟨_, rfl, h⟩
      · have h := ite_f h hc
        refine wp_iload_n X dX5_cellOf_16 3 rfl ?_
        refine wp_aload_n X dX5_cellOf_17 0 rfl ?_
        refine gf_X5_50 X sh_37 dX5_cellOf_18 ?_
        refine wp_icmp_ge (tgt := 40) X dX5_cellOf_21 (by decide) (fun hc => ?_) (fun hc => ?_)
        · have h := ite_t h hc
          refine wp_iconst X dX5_cellOf_40 ic_m1 ?_
          exact wp_iret X Y dX5_cellOf_41 ⟨_, rfl, h⟩
        · have h := ite_f h hc
          refine wp_iload_n X dX5_cellOf_24 2 rfl ?_
          refine wp_iconst X dX5_cellOf_25 ic_m1 ?_
          refine wp_icmp_lt (tgt := 40) X dX5_cellOf_26 (by decide) (fun hc => ?_) (fun hc => ?_)
          · have h := ite_t h hc
            refine wp_iconst X dX5_cellOf_40 ic_m1 ?_
            exact wp_iret X Y dX5_cellOf_41 ⟨_, rfl, h⟩
          · have h := ite_f h hc
            refine wp_iload_n X dX5_cellOf_29 2 rfl ?_
            refine wp_aload_n X dX5_cellOf_30 0 rfl ?_
            refine gf_X5_12 (o' := 38) X sh_37 rfl dX5_cellOf_31 ?_
            refine gf_X5_84 X okM_38.1 dX5_cellOf_34 ?_
            refine wp_icmp_lt (tgt := 42) X dX5_cellOf_37 (by decide) (fun hc => ?_) (fun hc => ?_)
            · have h := ite_t h hc
              refine wp_iload_n X dX5_cellOf_42 2 rfl ?_
              refine wp_iconst X dX5_cellOf_43 ic_m1 ?_
              refine wp_icmp_ne (tgt := 56) X dX5_cellOf_44 (by decide) (fun hc => ?_) (fun hc => ?_)
              · have h := ite_f h hc
                refine wp_aload_n X dX5_cellOf_56 0 rfl ?_
                refine gf_X5_12 (o' := 38) X sh_37 rfl dX5_cellOf_57 ?_
                refine wp_aload_n X dX5_cellOf_60 0 rfl ?_
                refine gf_X5_28 (o' := 50) X sh_37 rfl dX5_cellOf_61 ?_
                refine wp_iload_n X dX5_cellOf_64 1 rfl ?_
                obtain ⟨hb65, h⟩ := h
                refine wp_iald X sh_50 hb65 dX5_cellOf_65 ?_
                refine wp_iload_n X dX5_cellOf_66 2 rfl ?_
                refine cv_Machine_leadOf X dX5_cellOf_67 ml_X5_87 okM_38 h (Nat.le_of_ble_eq_true rfl) (by decide) (fun r67 I67 J67 h => ?_)
                refine wp_sub X [0, 3] rfl ?_
                exact w_Pupil_cellOf_b70 X Y  h
              · have h := ite_t h hc
                refine wp_aload_n X dX5_cellOf_47 0 rfl ?_
                refine gf_X5_28 (o' := 50) X sh_37 rfl dX5_cellOf_48 ?_
                refine wp_iload_n X dX5_cellOf_51 1 rfl ?_
                obtain ⟨hb52, h⟩ := h
                refine wp_iald X sh_50 hb52 dX5_cellOf_52 ?_
                refine wp_goto (tgt := 70) X dX5_cellOf_53 (by decide) ?_
                refine wp_sub X [0, 3] rfl ?_
                exact w_Pupil_cellOf_b70 X Y  h
            · have h := ite_f h hc
              refine wp_iconst X dX5_cellOf_40 ic_m1 ?_
              exact wp_iret X Y dX5_cellOf_41 ⟨_, rfl, h⟩

theorem c_Pupil_cellOf {l : Launch} {g : GE} (hg : Inj g) {I : MI} {J : MJ} {Q : Int32 → MI → MJ → Prop} {x1 : Int32} {x2 : Int32} {x3 : Int32}  (h : f_Pupil_cellOf x1 x2 x3 I J Q) : Cm l g yX5_cellOf cX5_cellOf 5 (Option.some Jvm.ClassFile.FieldType.int) 2 [.ref (g.1 37), .int x1, .int x2, .int x3] I J (Pi Q) := by
  refine Cm.of (As := fun ad => [.ref (ad 37), .int x1, .int x2, .int x3]) hg pn_X5 (Nat.le_of_ble_eq_true rfl) ?_
  exact (fun Γ _ _ X Y => w_Pupil_cellOf_b0 X Y  h)
theorem cv_Pupil_cellOf {Γ : Ctx} {cc : ByteArray} {nL d pc index : Nat} {own : String} {L : List (Nat × Value)} {rest : List Value} {I : MI} {J : MJ} {Q : Int32 → MI → MJ → Prop} {x1 : Int32} {x2 : Int32} {x3 : Int32} (X : Cx Γ cc nL own d) (hd : decode cc pc = .ok (.invokevirtual index, 3)) (hlink : Cond.methodLink own index yX5_cellOf ∈ TT)  (h : f_Pupil_cellOf x1 x2 x3 I J Q) (hrest : (rest.map fun v => v.category).sum ≤ 8) (hdd : 2 + 1 ≤ d) (kk : ∀ (r : Int32) (I' : MI) (J' : MJ), Q r I' J' → Wp Γ nL (pc + 3) L (.int r :: rest) I' J') : Wp Γ nL pc L (.int x3 :: .int x2 :: .int x1 :: .ref (ad Γ 37) :: rest) I J :=
  wp_callV (As := [.int x1, .int x2, .int x3]) (rest := rest) (T := TX5) (N := 12) X hd hlink mv_X5_cellOf sh_37 (by decide) rfl (c_Pupil_cellOf X.inj  h) rfl rfl hrest hdd (fun v I' J' hv => by obtain ⟨r, rfl, hq⟩ := hv; exact kk r I' J' hq)
theorem dX10_cell_0 : decode cX10_cell 0 = .ok (.aload_n 0, 1) := by decide +kernel
theorem dX10_cell_1 : decode cX10_cell 1 = .ok (.getfield 46, 3) := by decide +kernel
theorem dX10_cell_4 : decode cX10_cell 4 = .ok (.iload_n 1, 1) := by decide +kernel
theorem dX10_cell_5 : decode cX10_cell 5 = .ok (.iload_n 2, 1) := by decide +kernel
theorem dX10_cell_6 : decode cX10_cell 6 = .ok (.iload_n 3, 1) := by decide +kernel
theorem dX10_cell_7 : decode cX10_cell 7 = .ok (.invokevirtual 276, 3) := by decide +kernel
theorem dX10_cell_10 : decode cX10_cell 10 = .ok (.ireturn, 1) := by decide +kernel
def f_School_cell (x1 : Int32) (x2 : Int32) (x3 : Int32) (I : MI) (J : MJ) (Q : Int32 → MI → MJ → Prop) : Prop :=
  f_Pupil_cellOf x1 x2 x3 I J (fun r7 I7 J7 => Q r7 I7 J7)
set_option maxRecDepth 100000 in
set_option maxHeartbeats 4000000 in
theorem w_School_cell_b0 {Γ : Ctx} {Q : Int32 → MI → MJ → Prop} {x1 : Int32} {x2 : Int32} {x3 : Int32}  (X : Cx Γ cX10_cell 4 RX10 3) (Y : Rt Γ (Pi Q) (Option.some Jvm.ClassFile.FieldType.int))   {I : MI} {J : MJ} (h : f_School_cell x1 x2 x3 I J Q) : Wp Γ 4 0 [(0, .ref (ad Γ 0)), (1, .int x1), (2, .int x2), (3, .int x3)] [] I J := by
  unfold f_School_cell at h
  refine wp_aload_n X dX10_cell_0 0 rfl ?_
  refine gf_X10_46 (o' := 37) X sh_0 rfl dX10_cell_1 ?_
  refine wp_iload_n X dX10_cell_4 1 rfl ?_
  refine wp_iload_n X dX10_cell_5 2 rfl ?_
  refine wp_iload_n X dX10_cell_6 3 rfl ?_
  refine cv_Pupil_cellOf X dX10_cell_7 ml_X10_276  h (Nat.le_of_ble_eq_true rfl) (by decide) (fun r7 I7 J7 h => ?_)
  exact wp_iret X Y dX10_cell_10 ⟨_, rfl, h⟩

theorem c_School_cell {l : Launch} {g : GE} (hg : Inj g) {I : MI} {J : MJ} {Q : Int32 → MI → MJ → Prop} {x1 : Int32} {x2 : Int32} {x3 : Int32}  (h : f_School_cell x1 x2 x3 I J Q) : Cm l g yX10_cell cX10_cell 4 (Option.some Jvm.ClassFile.FieldType.int) 3 [.ref (g.1 0), .int x1, .int x2, .int x3] I J (Pi Q) := by
  refine Cm.of (As := fun ad => [.ref (ad 0), .int x1, .int x2, .int x3]) hg pn_X10 (Nat.le_of_ble_eq_true rfl) ?_
  exact (fun Γ _ _ X Y => w_School_cell_b0 X Y  h)
theorem cv_School_cell {Γ : Ctx} {cc : ByteArray} {nL d pc index : Nat} {own : String} {L : List (Nat × Value)} {rest : List Value} {I : MI} {J : MJ} {Q : Int32 → MI → MJ → Prop} {x1 : Int32} {x2 : Int32} {x3 : Int32} (X : Cx Γ cc nL own d) (hd : decode cc pc = .ok (.invokevirtual index, 3)) (hlink : Cond.methodLink own index yX10_cell ∈ TT)  (h : f_School_cell x1 x2 x3 I J Q) (hrest : (rest.map fun v => v.category).sum ≤ 8) (hdd : 3 + 1 ≤ d) (kk : ∀ (r : Int32) (I' : MI) (J' : MJ), Q r I' J' → Wp Γ nL (pc + 3) L (.int r :: rest) I' J') : Wp Γ nL pc L (.int x3 :: .int x2 :: .int x1 :: .ref (ad Γ 0) :: rest) I J :=
  wp_callV (As := [.int x1, .int x2, .int x3]) (rest := rest) (T := TX10) (N := 9) X hd hlink mv_X10_cell sh_0 (by decide) rfl (c_School_cell X.inj  h) rfl rfl hrest hdd (fun v I' J' hv => by obtain ⟨r, rfl, hq⟩ := hv; exact kk r I' J' hq)
theorem dX10_told_0 : decode cX10_told 0 = .ok (.aload_n 0, 1) := by decide +kernel
theorem dX10_told_1 : decode cX10_told 1 = .ok (.getfield 46, 3) := by decide +kernel
theorem dX10_told_4 : decode cX10_told 4 = .ok (.getfield 280, 3) := by decide +kernel
theorem dX10_told_7 : decode cX10_told 7 = .ok (.lreturn, 1) := by decide +kernel
def f_School_told (I : MI) (J : MJ) (Q : Int64 → MI → MJ → Prop) : Prop :=
  Q (J 37 5) I J
set_option maxRecDepth 100000 in
set_option maxHeartbeats 4000000 in
theorem w_School_told_b0 {Γ : Ctx} {Q : Int64 → MI → MJ → Prop}   (X : Cx Γ cX10_told 1 RX10 0) (Y : Rt Γ (Pl Q) (Option.some Jvm.ClassFile.FieldType.long))   {I : MI} {J : MJ} (h : f_School_told  I J Q) : Wp Γ 1 0 [(0, .ref (ad Γ 0))] [] I J := by
  unfold f_School_told at h
  refine wp_aload_n X dX10_told_0 0 rfl ?_
  refine gf_X10_46 (o' := 37) X sh_0 rfl dX10_told_1 ?_
  refine gf_X10_280 X sh_37 dX10_told_4 ?_
  exact wp_lret X Y dX10_told_7 ⟨_, rfl, h⟩

theorem c_School_told {l : Launch} {g : GE} (hg : Inj g) {I : MI} {J : MJ} {Q : Int64 → MI → MJ → Prop}   (h : f_School_told  I J Q) : Cm l g yX10_told cX10_told 1 (Option.some Jvm.ClassFile.FieldType.long) 0 [.ref (g.1 0)] I J (Pl Q) := by
  refine Cm.of (As := fun ad => [.ref (ad 0)]) hg pn_X10 (Nat.le_of_ble_eq_true rfl) ?_
  exact (fun Γ _ _ X Y => w_School_told_b0 X Y  h)
theorem cv_School_told {Γ : Ctx} {cc : ByteArray} {nL d pc index : Nat} {own : String} {L : List (Nat × Value)} {rest : List Value} {I : MI} {J : MJ} {Q : Int64 → MI → MJ → Prop}  (X : Cx Γ cc nL own d) (hd : decode cc pc = .ok (.invokevirtual index, 3)) (hlink : Cond.methodLink own index yX10_told ∈ TT)  (h : f_School_told  I J Q) (hrest : (rest.map fun v => v.category).sum ≤ 8) (hdd : 0 + 1 ≤ d) (kk : ∀ (r : Int64) (I' : MI) (J' : MJ), Q r I' J' → Wp Γ nL (pc + 3) L (.long r :: rest) I' J') : Wp Γ nL pc L (.ref (ad Γ 0) :: rest) I J :=
  wp_callV (As := []) (rest := rest) (T := TX10) (N := 9) X hd hlink mv_X10_told sh_0 (by decide) rfl (c_School_told X.inj  h) rfl rfl hrest hdd (fun v I' J' hv => by obtain ⟨r, rfl, hq⟩ := hv; exact kk r I' J' hq)
theorem dX10_guesses_0 : decode cX10_guesses 0 = .ok (.aload_n 0, 1) := by decide +kernel
theorem dX10_guesses_1 : decode cX10_guesses 1 = .ok (.getfield 46, 3) := by decide +kernel
theorem dX10_guesses_4 : decode cX10_guesses 4 = .ok (.getfield 284, 3) := by decide +kernel
theorem dX10_guesses_7 : decode cX10_guesses 7 = .ok (.ireturn, 1) := by decide +kernel
def f_School_guesses (I : MI) (J : MJ) (Q : Int32 → MI → MJ → Prop) : Prop :=
  Q (I 37 4) I J
set_option maxRecDepth 100000 in
set_option maxHeartbeats 4000000 in
theorem w_School_guesses_b0 {Γ : Ctx} {Q : Int32 → MI → MJ → Prop}   (X : Cx Γ cX10_guesses 1 RX10 0) (Y : Rt Γ (Pi Q) (Option.some Jvm.ClassFile.FieldType.int))   {I : MI} {J : MJ} (h : f_School_guesses  I J Q) : Wp Γ 1 0 [(0, .ref (ad Γ 0))] [] I J := by
  unfold f_School_guesses at h
  refine wp_aload_n X dX10_guesses_0 0 rfl ?_
  refine gf_X10_46 (o' := 37) X sh_0 rfl dX10_guesses_1 ?_
  refine gf_X10_284 X sh_37 dX10_guesses_4 ?_
  exact wp_iret X Y dX10_guesses_7 ⟨_, rfl, h⟩

theorem c_School_guesses {l : Launch} {g : GE} (hg : Inj g) {I : MI} {J : MJ} {Q : Int32 → MI → MJ → Prop}   (h : f_School_guesses  I J Q) : Cm l g yX10_guesses cX10_guesses 1 (Option.some Jvm.ClassFile.FieldType.int) 0 [.ref (g.1 0)] I J (Pi Q) := by
  refine Cm.of (As := fun ad => [.ref (ad 0)]) hg pn_X10 (Nat.le_of_ble_eq_true rfl) ?_
  exact (fun Γ _ _ X Y => w_School_guesses_b0 X Y  h)
theorem cv_School_guesses {Γ : Ctx} {cc : ByteArray} {nL d pc index : Nat} {own : String} {L : List (Nat × Value)} {rest : List Value} {I : MI} {J : MJ} {Q : Int32 → MI → MJ → Prop}  (X : Cx Γ cc nL own d) (hd : decode cc pc = .ok (.invokevirtual index, 3)) (hlink : Cond.methodLink own index yX10_guesses ∈ TT)  (h : f_School_guesses  I J Q) (hrest : (rest.map fun v => v.category).sum ≤ 8) (hdd : 0 + 1 ≤ d) (kk : ∀ (r : Int32) (I' : MI) (J' : MJ), Q r I' J' → Wp Γ nL (pc + 3) L (.int r :: rest) I' J') : Wp Γ nL pc L (.ref (ad Γ 0) :: rest) I J :=
  wp_callV (As := []) (rest := rest) (T := TX10) (N := 9) X hd hlink mv_X10_guesses sh_0 (by decide) rfl (c_School_guesses X.inj  h) rfl rfl hrest hdd (fun v I' J' hv => by obtain ⟨r, rfl, hq⟩ := hv; exact kk r I' J' hq)
theorem dX2_holds_0 : decode cX2_holds 0 = .ok (.iconst 0, 1) := by decide +kernel
theorem dX2_holds_1 : decode cX2_holds 1 = .ok (.istore_n 3, 1) := by decide +kernel
theorem dX2_holds_2 : decode cX2_holds 2 = .ok (.iload_n 3, 1) := by decide +kernel
theorem dX2_holds_3 : decode cX2_holds 3 = .ok (.aload_n 0, 1) := by decide +kernel
theorem dX2_holds_4 : decode cX2_holds 4 = .ok (.getfield 34, 3) := by decide +kernel
theorem dX2_holds_7 : decode cX2_holds 7 = .ok (.if_icmp .ge 22, 3) := by decide +kernel
theorem dX2_holds_10 : decode cX2_holds 10 = .ok (.aload_n 0, 1) := by decide +kernel
theorem dX2_holds_11 : decode cX2_holds 11 = .ok (.getfield 9, 3) := by decide +kernel
theorem dX2_holds_14 : decode cX2_holds 14 = .ok (.iload_n 3, 1) := by decide +kernel
theorem dX2_holds_15 : decode cX2_holds 15 = .ok (.laload, 1) := by decide +kernel
theorem dX2_holds_16 : decode cX2_holds 16 = .ok (.lload_n 1, 1) := by decide +kernel
theorem dX2_holds_17 : decode cX2_holds 17 = .ok (.lcmp, 1) := by decide +kernel
theorem dX2_holds_18 : decode cX2_holds 18 = .ok (.ifCond .ne 5, 3) := by decide +kernel
theorem dX2_holds_21 : decode cX2_holds 21 = .ok (.iconst 1, 1) := by decide +kernel
theorem dX2_holds_22 : decode cX2_holds 22 = .ok (.ireturn, 1) := by decide +kernel
theorem dX2_holds_23 : decode cX2_holds 23 = .ok (.iinc 3 1, 3) := by decide +kernel
theorem dX2_holds_26 : decode cX2_holds 26 = .ok (.goto (-24), 3) := by decide +kernel
theorem dX2_holds_29 : decode cX2_holds 29 = .ok (.iconst 0, 1) := by decide +kernel
theorem dX2_holds_30 : decode cX2_holds 30 = .ok (.ireturn, 1) := by decide +kernel
def f_Known_holds_L2 (x1 : Int64) (k21 : MI → MJ → Prop) (k29 : MI → MJ → Prop) : Nat → Int32 → MI → MJ → Prop
  | 0, _, _, _ => False
  | nf2 + 1, x3, I, J =>
  (if (I 52 0) ≤ x3 then k29 I J else vp_in x3 12 ∧ (if (J 53 x3.toNatClampNeg) = x1 then k21 I J else ∀ t23 : Int32, t23 = x3 + 1 → f_Known_holds_L2 x1 k21 k29 nf2 t23 I J))
def f_Known_holds (x1 : Int64) (I : MI) (J : MJ) (Q : Int32 → MI → MJ → Prop) : Prop :=
  ∃ n, f_Known_holds_L2 x1 (fun (I : MI) (J : MJ) => Q 1 I J) (fun (I : MI) (J : MJ) => Q 0 I J) n 0 I J
set_option maxRecDepth 100000 in
set_option maxHeartbeats 4000000 in
theorem w_Known_holds_L2 {Γ : Ctx} {Q : Int32 → MI → MJ → Prop} {x1 : Int64} {k21 : MI → MJ → Prop} {k29 : MI → MJ → Prop} (X : Cx Γ cX2_holds 4 RX2 0) (Y : Rt Γ (Pi Q) (Option.some Jvm.ClassFile.FieldType.boolean))  (hk21 : ∀ (I : MI) (J : MJ), k21 I J → Wp Γ 4 21 [] [] I J) (hk29 : ∀ (I : MI) (J : MJ), k29 I J → Wp Γ 4 29 [] [] I J) : ∀ (n : Nat) (x3 : Int32) (I : MI) (J : MJ), f_Known_holds_L2 x1 k21 k29 n x3 I J → Wp Γ 4 2 [(0, .ref (ad Γ 52)), (1, .long x1), (3, .int x3)] [] I J := by
  intro n
  induction n with
  | zero => intro x3 I J h; exact absurd h (by simp [f_Known_holds_L2])
  | succ n ih =>
  intro x3 I J h
  unfold f_Known_holds_L2 at h
  refine wp_iload_n X dX2_holds_2 2 rfl ?_
  refine wp_aload_n X dX2_holds_3 0 rfl ?_
  refine gf_X2_34 X sh_52 dX2_holds_4 ?_
  refine wp_icmp_ge (tgt := 29) X dX2_holds_7 (by decide) (fun hc => ?_) (fun hc => ?_)
  · have h := ite_t h hc
    refine wp_sub X [] rfl ?_
    exact hk29 _ _ h
  · have h := ite_f h hc
    refine wp_aload_n X dX2_holds_10 0 rfl ?_
    refine gf_X2_9 (o' := 53) X sh_52 rfl dX2_holds_11 ?_
    refine wp_iload_n X dX2_holds_14 2 rfl ?_
    obtain ⟨hb15, h⟩ := h
    refine wp_lald X sh_53 hb15 dX2_holds_15 ?_
    refine wp_lload_n X dX2_holds_16 1 rfl ?_
    refine wp_lcmp_ne (tgt := 23) X dX2_holds_17 dX2_holds_18 (by decide) (fun hc => ?_) (fun hc => ?_)
    · have h := ite_f h hc
      obtain ⟨t23, et23⟩ : ∃ y : Int32, y = x3 + 1 := ⟨_, rfl⟩
      have h := h t23 et23
      refine wp_iinc (L' := [(3, .int t23), (0, .ref (ad Γ 52)), (1, .long x1)]) X dX2_holds_23 2 rfl (ii_1 et23) (by decide) rfl ?_
      refine wp_goto (tgt := 2) X dX2_holds_26 (by decide) ?_
      refine wp_sub X [1, 2, 0] rfl ?_
      exact ih _ _ _ h
    · have h := ite_t h hc
      refine wp_sub X [] rfl ?_
      exact hk21 _ _ h

set_option maxRecDepth 100000 in
set_option maxHeartbeats 4000000 in
theorem w_Known_holds_b0 {Γ : Ctx} {Q : Int32 → MI → MJ → Prop} {x1 : Int64}  (X : Cx Γ cX2_holds 4 RX2 0) (Y : Rt Γ (Pi Q) (Option.some Jvm.ClassFile.FieldType.boolean))   {I : MI} {J : MJ} (h : f_Known_holds x1 I J Q) : Wp Γ 4 0 [(0, .ref (ad Γ 52)), (1, .long x1)] [] I J := by
  unfold f_Known_holds at h
  refine wp_iconst X dX2_holds_0 ic_0 ?_
  refine wp_istore_n (L' := [(3, .int 0), (0, .ref (ad Γ 52)), (1, .long x1)]) X dX2_holds_1 rfl (by decide) rfl ?_
  obtain ⟨n, h⟩ := h
  refine wp_sub X [1, 2, 0] rfl ?_
  refine w_Known_holds_L2 X Y  ?_ ?_ n _ _ _ h
  · intro I J h
    refine wp_iconst X dX2_holds_21 ic_1 ?_
    exact wp_zret X Y dX2_holds_22 (by decide) ⟨_, rfl, h⟩
  · intro I J h
    refine wp_iconst X dX2_holds_29 ic_0 ?_
    exact wp_zret X Y dX2_holds_30 (by decide) ⟨_, rfl, h⟩

theorem c_Known_holds {l : Launch} {g : GE} (hg : Inj g) {I : MI} {J : MJ} {Q : Int32 → MI → MJ → Prop} {x1 : Int64}  (h : f_Known_holds x1 I J Q) : Cm l g yX2_holds cX2_holds 4 (Option.some Jvm.ClassFile.FieldType.boolean) 0 [.ref (g.1 52), .long x1] I J (Pi Q) := by
  refine Cm.of (As := fun ad => [.ref (ad 52), .long x1]) hg pn_X2 (Nat.le_of_ble_eq_true rfl) ?_
  exact (fun Γ _ _ X Y => w_Known_holds_b0 X Y  h)
theorem cv_Known_holds {Γ : Ctx} {cc : ByteArray} {nL d pc index : Nat} {own : String} {L : List (Nat × Value)} {rest : List Value} {I : MI} {J : MJ} {Q : Int32 → MI → MJ → Prop} {x1 : Int64} (X : Cx Γ cc nL own d) (hd : decode cc pc = .ok (.invokevirtual index, 3)) (hlink : Cond.methodLink own index yX2_holds ∈ TT)  (h : f_Known_holds x1 I J Q) (hrest : (rest.map fun v => v.category).sum ≤ 8) (hdd : 0 + 1 ≤ d) (kk : ∀ (r : Int32) (I' : MI) (J' : MJ), Q r I' J' → Wp Γ nL (pc + 3) L (.int r :: rest) I' J') : Wp Γ nL pc L (.long x1 :: .ref (ad Γ 52) :: rest) I J :=
  wp_callV (As := [.long x1]) (rest := rest) (T := TX2) (N := 8) X hd hlink mv_X2_holds sh_52 (by decide) rfl (c_Known_holds X.inj  h) rfl rfl hrest hdd (fun v I' J' hv => by obtain ⟨r, rfl, hq⟩ := hv; exact kk r I' J' hq)
theorem dX2_keep_0 : decode cX2_keep 0 = .ok (.aload_n 0, 1) := by decide +kernel
theorem dX2_keep_1 : decode cX2_keep 1 = .ok (.getfield 34, 3) := by decide +kernel
theorem dX2_keep_4 : decode cX2_keep 4 = .ok (.bipush 12, 2) := by decide +kernel
theorem dX2_keep_6 : decode cX2_keep 6 = .ok (.if_icmp .ge 46, 3) := by decide +kernel
theorem dX2_keep_9 : decode cX2_keep 9 = .ok (.aload_n 0, 1) := by decide +kernel
theorem dX2_keep_10 : decode cX2_keep 10 = .ok (.getfield 9, 3) := by decide +kernel
theorem dX2_keep_13 : decode cX2_keep 13 = .ok (.aload_n 0, 1) := by decide +kernel
theorem dX2_keep_14 : decode cX2_keep 14 = .ok (.getfield 34, 3) := by decide +kernel
theorem dX2_keep_17 : decode cX2_keep 17 = .ok (.lload_n 1, 1) := by decide +kernel
theorem dX2_keep_18 : decode cX2_keep 18 = .ok (.lastore, 1) := by decide +kernel
theorem dX2_keep_19 : decode cX2_keep 19 = .ok (.aload_n 0, 1) := by decide +kernel
theorem dX2_keep_20 : decode cX2_keep 20 = .ok (.getfield 15, 3) := by decide +kernel
theorem dX2_keep_23 : decode cX2_keep 23 = .ok (.aload_n 0, 1) := by decide +kernel
theorem dX2_keep_24 : decode cX2_keep 24 = .ok (.getfield 34, 3) := by decide +kernel
theorem dX2_keep_27 : decode cX2_keep 27 = .ok (.iload_n 3, 1) := by decide +kernel
theorem dX2_keep_28 : decode cX2_keep 28 = .ok (.iastore, 1) := by decide +kernel
theorem dX2_keep_29 : decode cX2_keep 29 = .ok (.aload_n 0, 1) := by decide +kernel
theorem dX2_keep_30 : decode cX2_keep 30 = .ok (.getfield 22, 3) := by decide +kernel
theorem dX2_keep_33 : decode cX2_keep 33 = .ok (.aload_n 0, 1) := by decide +kernel
theorem dX2_keep_34 : decode cX2_keep 34 = .ok (.getfield 34, 3) := by decide +kernel
theorem dX2_keep_37 : decode cX2_keep 37 = .ok (.lload_n 1, 1) := by decide +kernel
theorem dX2_keep_38 : decode cX2_keep 38 = .ok (.invokestatic 38, 3) := by decide +kernel
theorem dX2_keep_41 : decode cX2_keep 41 = .ok (.iastore, 1) := by decide +kernel
theorem dX2_keep_42 : decode cX2_keep 42 = .ok (.aload_n 0, 1) := by decide +kernel
theorem dX2_keep_43 : decode cX2_keep 43 = .ok (.dup, 1) := by decide +kernel
theorem dX2_keep_44 : decode cX2_keep 44 = .ok (.getfield 34, 3) := by decide +kernel
theorem dX2_keep_47 : decode cX2_keep 47 = .ok (.iconst 1, 1) := by decide +kernel
theorem dX2_keep_48 : decode cX2_keep 48 = .ok (.iadd, 1) := by decide +kernel
theorem dX2_keep_49 : decode cX2_keep 49 = .ok (.putfield 34, 3) := by decide +kernel
theorem dX2_keep_52 : decode cX2_keep 52 = .ok (.return_, 1) := by decide +kernel
def f_Known_keep (x1 : Int64) (x3 : Int32) (I : MI) (J : MJ) (Q : MI → MJ → Prop) : Prop :=
  (if 12 ≤ (I 52 0) then Q I J else vp_in (I 52 0) 12 ∧ ∀ J18 : MJ, J18 = sJ J 53 (vp_updL (J 53) (I 52 0).toNatClampNeg x1) → vp_in (I 52 0) 12 ∧ ∀ I28 : MI, I28 = sI I 54 (upd (I 54) (I 52 0).toNatClampNeg x3) → f_Words_lengthOf x1 I28 J18 (fun r38 I38 J38 => vp_in (I28 52 0) 12 ∧ ∀ I41 : MI, I41 = sI I38 56 (upd (I38 56) (I28 52 0).toNatClampNeg r38) → ∀ I49 : MI, I49 = sI I41 52 (upd (I41 52) 0 ((I41 52 0) + 1)) → Q I49 J38))
set_option maxRecDepth 100000 in
set_option maxHeartbeats 4000000 in
theorem w_Known_keep_b0 {Γ : Ctx} {Q : MI → MJ → Prop} {x1 : Int64} {x3 : Int32}  (X : Cx Γ cX2_keep 4 RX2 1) (Y : Rt Γ (Pv Q) (Option.none : Option Jvm.ClassFile.FieldType))   {I : MI} {J : MJ} (h : f_Known_keep x1 x3 I J Q) : Wp Γ 4 0 [(0, .ref (ad Γ 52)), (1, .long x1), (3, .int x3)] [] I J := by
  unfold f_Known_keep at h
  refine wp_aload_n X dX2_keep_0 0 rfl ?_
  refine gf_X2_34 X sh_52 dX2_keep_1 ?_
  refine wp_bipush X dX2_keep_4 bi_12 ?_
  refine wp_icmp_ge (tgt := 52) X dX2_keep_6 (by decide) (fun hc => ?_) (fun hc => ?_)
  · have h := ite_t h hc
    exact wp_vret X Y dX2_keep_52 ⟨rfl, h⟩
  · have h := ite_f h hc
    refine wp_aload_n X dX2_keep_9 0 rfl ?_
    refine gf_X2_9 (o' := 53) X sh_52 rfl dX2_keep_10 ?_
    refine wp_aload_n X dX2_keep_13 0 rfl ?_
    refine gf_X2_34 X sh_52 dX2_keep_14 ?_
    refine wp_lload_n X dX2_keep_17 1 rfl ?_
    obtain ⟨hb18, h⟩ := h
    refine wp_last X sh_53 hb18 dX2_keep_18 ?_
    refine wp_memJ (fun J18 eJ18 => ?_)
    have h := h J18 eJ18
    refine wp_aload_n X dX2_keep_19 0 rfl ?_
    refine gf_X2_15 (o' := 54) X sh_52 rfl dX2_keep_20 ?_
    refine wp_aload_n X dX2_keep_23 0 rfl ?_
    refine gf_X2_34 X sh_52 dX2_keep_24 ?_
    refine wp_iload_n X dX2_keep_27 2 rfl ?_
    obtain ⟨hb28, h⟩ := h
    refine wp_iast X sh_54 hb28 dX2_keep_28 ?_
    refine wp_memI (fun I28 eI28 => ?_)
    have h := h I28 eI28
    refine wp_aload_n X dX2_keep_29 0 rfl ?_
    refine gf_X2_22 (o' := 56) X sh_52 rfl dX2_keep_30 ?_
    refine wp_aload_n X dX2_keep_33 0 rfl ?_
    refine gf_X2_34 X sh_52 dX2_keep_34 ?_
    refine wp_lload_n X dX2_keep_37 1 rfl ?_
    refine cs_Words_lengthOf X dX2_keep_38 ml_X2_38  h (Nat.le_of_ble_eq_true rfl) (by decide) (fun r38 I38 J38 h => ?_)
    obtain ⟨hb41, h⟩ := h
    refine wp_iast X sh_56 hb41 dX2_keep_41 ?_
    refine wp_memI (fun I41 eI41 => ?_)
    have h := h I41 eI41
    refine wp_aload_n X dX2_keep_42 0 rfl ?_
    refine wp_dup X dX2_keep_43 rfl ?_
    refine gf_X2_34 X sh_52 dX2_keep_44 ?_
    refine wp_iconst X dX2_keep_47 ic_1 ?_
    refine wp_iadd X dX2_keep_48 ?_
    refine pf_X2_34 X sh_52 dX2_keep_49 (fun I49 eI49 => ?_)
    have h := h I49 eI49
    exact wp_vret X Y dX2_keep_52 ⟨rfl, h⟩

theorem c_Known_keep {l : Launch} {g : GE} (hg : Inj g) {I : MI} {J : MJ} {Q : MI → MJ → Prop} {x1 : Int64} {x3 : Int32}  (h : f_Known_keep x1 x3 I J Q) : Cm l g yX2_keep cX2_keep 4 (Option.none : Option Jvm.ClassFile.FieldType) 1 [.ref (g.1 52), .long x1, .int x3] I J (Pv Q) := by
  refine Cm.of (As := fun ad => [.ref (ad 52), .long x1, .int x3]) hg pn_X2 (Nat.le_of_ble_eq_true rfl) ?_
  exact (fun Γ _ _ X Y => w_Known_keep_b0 X Y  h)
theorem cv_Known_keep {Γ : Ctx} {cc : ByteArray} {nL d pc index : Nat} {own : String} {L : List (Nat × Value)} {rest : List Value} {I : MI} {J : MJ} {Q : MI → MJ → Prop} {x1 : Int64} {x3 : Int32} (X : Cx Γ cc nL own d) (hd : decode cc pc = .ok (.invokevirtual index, 3)) (hlink : Cond.methodLink own index yX2_keep ∈ TT)  (h : f_Known_keep x1 x3 I J Q) (hrest : (rest.map fun v => v.category).sum ≤ 8) (hdd : 1 + 1 ≤ d) (kk : ∀ (I' : MI) (J' : MJ), Q I' J' → Wp Γ nL (pc + 3) L rest I' J') : Wp Γ nL pc L (.int x3 :: .long x1 :: .ref (ad Γ 52) :: rest) I J :=
  wp_callV (As := [.long x1, .int x3]) (rest := rest) (T := TX2) (N := 8) X hd hlink mv_X2_keep sh_52 (by decide) rfl (c_Known_keep X.inj  h) rfl rfl hrest hdd (fun v I' J' hv => by obtain ⟨rfl, hq⟩ := hv; exact kk I' J' hq)
theorem dX10_know_0 : decode cX10_know 0 = .ok (.aload_n 0, 1) := by decide +kernel
theorem dX10_know_1 : decode cX10_know 1 = .ok (.iload_n 1, 1) := by decide +kernel
theorem dX10_know_2 : decode cX10_know 2 = .ok (.invokevirtual 147, 3) := by decide +kernel
theorem dX10_know_5 : decode cX10_know 5 = .ok (.istore 4, 2) := by decide +kernel
theorem dX10_know_7 : decode cX10_know 7 = .ok (.iload 4, 2) := by decide +kernel
theorem dX10_know_9 : decode cX10_know 9 = .ok (.ifCond .ne 18, 3) := by decide +kernel
theorem dX10_know_12 : decode cX10_know 12 = .ok (.aload_n 0, 1) := by decide +kernel
theorem dX10_know_13 : decode cX10_know 13 = .ok (.getfield 11, 3) := by decide +kernel
theorem dX10_know_16 : decode cX10_know 16 = .ok (.iload_n 1, 1) := by decide +kernel
theorem dX10_know_17 : decode cX10_know 17 = .ok (.aaload, 1) := by decide +kernel
theorem dX10_know_18 : decode cX10_know 18 = .ok (.invokevirtual 153, 3) := by decide +kernel
theorem dX10_know_21 : decode cX10_know 21 = .ok (.ifCond .eq 6, 3) := by decide +kernel
theorem dX10_know_24 : decode cX10_know 24 = .ok (.iconst 4, 1) := by decide +kernel
theorem dX10_know_25 : decode cX10_know 25 = .ok (.istore 4, 2) := by decide +kernel
theorem dX10_know_27 : decode cX10_know 27 = .ok (.iload 4, 2) := by decide +kernel
theorem dX10_know_29 : decode cX10_know 29 = .ok (.ifCond .ne 13, 3) := by decide +kernel
theorem dX10_know_32 : decode cX10_know 32 = .ok (.lload_n 2, 1) := by decide +kernel
theorem dX10_know_33 : decode cX10_know 33 = .ok (.invokestatic 170, 3) := by decide +kernel
theorem dX10_know_36 : decode cX10_know 36 = .ok (.ifCond .ne 6, 3) := by decide +kernel
theorem dX10_know_39 : decode cX10_know 39 = .ok (.iconst 2, 1) := by decide +kernel
theorem dX10_know_40 : decode cX10_know 40 = .ok (.istore 4, 2) := by decide +kernel
theorem dX10_know_42 : decode cX10_know 42 = .ok (.iload 4, 2) := by decide +kernel
theorem dX10_know_44 : decode cX10_know 44 = .ok (.ifCond .ne 22, 3) := by decide +kernel
theorem dX10_know_47 : decode cX10_know 47 = .ok (.aload_n 0, 1) := by decide +kernel
theorem dX10_know_48 : decode cX10_know 48 = .ok (.getfield 11, 3) := by decide +kernel
theorem dX10_know_51 : decode cX10_know 51 = .ok (.iload_n 1, 1) := by decide +kernel
theorem dX10_know_52 : decode cX10_know 52 = .ok (.aaload, 1) := by decide +kernel
theorem dX10_know_53 : decode cX10_know 53 = .ok (.lload_n 2, 1) := by decide +kernel
theorem dX10_know_54 : decode cX10_know 54 = .ok (.invokevirtual 176, 3) := by decide +kernel
theorem dX10_know_57 : decode cX10_know 57 = .ok (.invokestatic 180, 3) := by decide +kernel
theorem dX10_know_60 : decode cX10_know 60 = .ok (.ifCond .ne 6, 3) := by decide +kernel
theorem dX10_know_63 : decode cX10_know 63 = .ok (.iconst 1, 1) := by decide +kernel
theorem dX10_know_64 : decode cX10_know 64 = .ok (.istore 4, 2) := by decide +kernel
theorem dX10_know_66 : decode cX10_know 66 = .ok (.iload 4, 2) := by decide +kernel
theorem dX10_know_68 : decode cX10_know 68 = .ok (.ifCond .ne 18, 3) := by decide +kernel
theorem dX10_know_71 : decode cX10_know 71 = .ok (.aload_n 0, 1) := by decide +kernel
theorem dX10_know_72 : decode cX10_know 72 = .ok (.getfield 53, 3) := by decide +kernel
theorem dX10_know_75 : decode cX10_know 75 = .ok (.lload_n 2, 1) := by decide +kernel
theorem dX10_know_76 : decode cX10_know 76 = .ok (.invokevirtual 287, 3) := by decide +kernel
theorem dX10_know_79 : decode cX10_know 79 = .ok (.ifCond .eq 7, 3) := by decide +kernel
theorem dX10_know_82 : decode cX10_know 82 = .ok (.bipush 6, 2) := by decide +kernel
theorem dX10_know_84 : decode cX10_know 84 = .ok (.istore 4, 2) := by decide +kernel
theorem dX10_know_86 : decode cX10_know 86 = .ok (.iload 4, 2) := by decide +kernel
theorem dX10_know_88 : decode cX10_know 88 = .ok (.ifCond .ne 18, 3) := by decide +kernel
theorem dX10_know_91 : decode cX10_know 91 = .ok (.aload_n 0, 1) := by decide +kernel
theorem dX10_know_92 : decode cX10_know 92 = .ok (.getfield 53, 3) := by decide +kernel
theorem dX10_know_95 : decode cX10_know 95 = .ok (.getfield 290, 3) := by decide +kernel
theorem dX10_know_98 : decode cX10_know 98 = .ok (.bipush 12, 2) := by decide +kernel
theorem dX10_know_100 : decode cX10_know 100 = .ok (.if_icmp .lt 6, 3) := by decide +kernel
theorem dX10_know_103 : decode cX10_know 103 = .ok (.iconst 5, 1) := by decide +kernel
theorem dX10_know_104 : decode cX10_know 104 = .ok (.istore 4, 2) := by decide +kernel
theorem dX10_know_106 : decode cX10_know 106 = .ok (.iload 4, 2) := by decide +kernel
theorem dX10_know_108 : decode cX10_know 108 = .ok (.ifCond .eq 10, 3) := by decide +kernel
theorem dX10_know_111 : decode cX10_know 111 = .ok (.aload_n 0, 1) := by decide +kernel
theorem dX10_know_112 : decode cX10_know 112 = .ok (.iload 4, 2) := by decide +kernel
theorem dX10_know_114 : decode cX10_know 114 = .ok (.invokevirtual 73, 3) := by decide +kernel
theorem dX10_know_117 : decode cX10_know 117 = .ok (.ireturn, 1) := by decide +kernel
theorem dX10_know_118 : decode cX10_know 118 = .ok (.aload_n 0, 1) := by decide +kernel
theorem dX10_know_119 : decode cX10_know 119 = .ok (.getfield 11, 3) := by decide +kernel
theorem dX10_know_122 : decode cX10_know 122 = .ok (.iload_n 1, 1) := by decide +kernel
theorem dX10_know_123 : decode cX10_know 123 = .ok (.aaload, 1) := by decide +kernel
theorem dX10_know_124 : decode cX10_know 124 = .ok (.lload_n 2, 1) := by decide +kernel
theorem dX10_know_125 : decode cX10_know 125 = .ok (.invokevirtual 176, 3) := by decide +kernel
theorem dX10_know_128 : decode cX10_know 128 = .ok (.istore 5, 2) := by decide +kernel
theorem dX10_know_130 : decode cX10_know 130 = .ok (.aload_n 0, 1) := by decide +kernel
theorem dX10_know_131 : decode cX10_know 131 = .ok (.getfield 53, 3) := by decide +kernel
theorem dX10_know_134 : decode cX10_know 134 = .ok (.lload_n 2, 1) := by decide +kernel
theorem dX10_know_135 : decode cX10_know 135 = .ok (.iload 5, 2) := by decide +kernel
theorem dX10_know_137 : decode cX10_know 137 = .ok (.invokevirtual 293, 3) := by decide +kernel
theorem dX10_know_140 : decode cX10_know 140 = .ok (.aload_n 0, 1) := by decide +kernel
theorem dX10_know_141 : decode cX10_know 141 = .ok (.iload 5, 2) := by decide +kernel
theorem dX10_know_143 : decode cX10_know 143 = .ok (.invokevirtual 86, 3) := by decide +kernel
theorem dX10_know_146 : decode cX10_know 146 = .ok (.ireturn, 1) := by decide +kernel
def f_School_know_b106 (x1 : Int32) (x2 : Int64) (x4 : Int32) (Q : Int32 → MI → MJ → Prop) (I : MI) (J : MJ) : Prop :=
  (if x4 = 0 then vp_in x1 16 ∧ f_Place_answerTo (1 + 64 + 7 * x1.toNatClampNeg) x2 I J (fun r125 I125 J125 => f_Known_keep x2 r125 I125 J125 (fun I137 J137 => f_School_done r125 I137 J137 (fun r143 I143 J143 => Q r143 I143 J143))) else f_School_refuse x4 I J (fun r114 I114 J114 => Q r114 I114 J114))
def f_School_know_b86 (x1 : Int32) (x2 : Int64) (x4 : Int32) (Q : Int32 → MI → MJ → Prop) (I : MI) (J : MJ) : Prop :=
  (if x4 = 0 then (if (I 52 0) < 12 then f_School_know_b106 x1 x2 x4 Q I J else f_School_know_b106 x1 x2 5 Q I J) else f_School_know_b106 x1 x2 x4 Q I J)
def f_School_know_b66 (x1 : Int32) (x2 : Int64) (x4 : Int32) (Q : Int32 → MI → MJ → Prop) (I : MI) (J : MJ) : Prop :=
  (if x4 = 0 then f_Known_holds x2 I J (fun r76 I76 J76 => (if r76 = 0 then f_School_know_b86 x1 x2 x4 Q I76 J76 else f_School_know_b86 x1 x2 6 Q I76 J76)) else f_School_know_b86 x1 x2 x4 Q I J)
def f_School_know_b42 (x1 : Int32) (x2 : Int64) (x4 : Int32) (Q : Int32 → MI → MJ → Prop) (I : MI) (J : MJ) : Prop :=
  (if x4 = 0 then vp_in x1 16 ∧ f_Place_answerTo (1 + 64 + 7 * x1.toNatClampNeg) x2 I J (fun r54 I54 J54 => f_School_isAnswer r54 I54 J54 (fun r57 I57 J57 => (if r57 = 0 then f_School_know_b66 x1 x2 1 Q I57 J57 else f_School_know_b66 x1 x2 x4 Q I57 J57))) else f_School_know_b66 x1 x2 x4 Q I J)
def f_School_know_b27 (x1 : Int32) (x2 : Int64) (x4 : Int32) (Q : Int32 → MI → MJ → Prop) (I : MI) (J : MJ) : Prop :=
  (if x4 = 0 then f_Words_isWord x2 I J (fun r33 I33 J33 => (if r33 = 0 then f_School_know_b42 x1 x2 2 Q I33 J33 else f_School_know_b42 x1 x2 x4 Q I33 J33)) else f_School_know_b42 x1 x2 x4 Q I J)
def f_School_know (x1 : Int32) (x2 : Int64) (I : MI) (J : MJ) (Q : Int32 → MI → MJ → Prop) : Prop :=
  f_School_thingFault x1 I J (fun r2 I2 J2 => (if r2 = 0 then vp_in x1 16 ∧ f_Place_hasMachine (1 + 64 + 7 * x1.toNatClampNeg) I2 J2 (fun r18 I18 J18 => (if r18 = 0 then f_School_know_b27 x1 x2 r2 Q I18 J18 else f_School_know_b27 x1 x2 4 Q I18 J18)) else f_School_know_b27 x1 x2 r2 Q I2 J2))
set_option maxRecDepth 100000 in
set_option maxHeartbeats 4000000 in
theorem w_School_know_b106 {Γ : Ctx} {Q : Int32 → MI → MJ → Prop} {x1 : Int32} {x2 : Int64} {x4 : Int32}  (X : Cx Γ cX10_know 6 RX10 5) (Y : Rt Γ (Pi Q) (Option.some Jvm.ClassFile.FieldType.int))   {I : MI} {J : MJ} (h : f_School_know_b106 x1 x2 x4 Q I J) : Wp Γ 6 106 [(0, .ref (ad Γ 0)), (1, .int x1), (2, .long x2), (4, .int x4)] [] I J := by
  unfold f_School_know_b106 at h
  refine wp_iload X dX10_know_106 3 rfl ?_
  refine wp_if_eq (tgt := 118) X dX10_know_108 (by decide) (fun hc => ?_) (fun hc => ?_)
  · have h := ite_t h hc
    refine wp_aload_n X dX10_know_118 0 rfl ?_
    refine gf_X10_11 (o' := 1) X sh_0 rfl dX10_know_119 ?_
    refine wp_iload_n X dX10_know_122 1 rfl ?_
    obtain ⟨hb123, h⟩ := h
    refine wp_aald X sh_1 hb123 dX10_know_123 ?_
    refine wp_lload_n X dX10_know_124 2 rfl ?_
    refine cv_Place_answerTo X dX10_know_125 ml_X10_176 (okP_at hb123) h (Nat.le_of_ble_eq_true rfl) (by decide) (fun r125 I125 J125 h => ?_)
    refine wp_istore (L' := [(5, .int r125), (0, .ref (ad Γ 0)), (1, .int x1), (2, .long x2), (4, .int x4)]) X dX10_know_128 (by decide) rfl ?_
    refine wp_aload_n X dX10_know_130 1 rfl ?_
    refine gf_X10_53 (o' := 52) X sh_0 rfl dX10_know_131 ?_
    refine wp_lload_n X dX10_know_134 3 rfl ?_
    refine wp_iload X dX10_know_135 0 rfl ?_
    refine cv_Known_keep X dX10_know_137 ml_X10_293  h (Nat.le_of_ble_eq_true rfl) (by decide) (fun I137 J137 h => ?_)
    refine wp_aload_n X dX10_know_140 1 rfl ?_
    refine wp_iload X dX10_know_141 0 rfl ?_
    refine cv_School_done X dX10_know_143 ml_X10_86  h (Nat.le_of_ble_eq_true rfl) (by decide) (fun r143 I143 J143 h => ?_)
    exact wp_iret X Y dX10_know_146 ⟨_, rfl, h⟩
  · have h := ite_f h hc
    refine wp_aload_n X dX10_know_111 0 rfl ?_
    refine wp_iload X dX10_know_112 3 rfl ?_
    refine cv_School_refuse X dX10_know_114 ml_X10_73  h (Nat.le_of_ble_eq_true rfl) (by decide) (fun r114 I114 J114 h => ?_)
    exact wp_iret X Y dX10_know_117 ⟨_, rfl, h⟩

set_option maxRecDepth 100000 in
set_option maxHeartbeats 4000000 in
theorem w_School_know_b86 {Γ : Ctx} {Q : Int32 → MI → MJ → Prop} {x1 : Int32} {x2 : Int64} {x4 : Int32}  (X : Cx Γ cX10_know 6 RX10 5) (Y : Rt Γ (Pi Q) (Option.some Jvm.ClassFile.FieldType.int))   {I : MI} {J : MJ} (h : f_School_know_b86 x1 x2 x4 Q I J) : Wp Γ 6 86 [(0, .ref (ad Γ 0)), (1, .int x1), (2, .long x2), (4, .int x4)] [] I J := by
  unfold f_School_know_b86 at h
  refine wp_iload X dX10_know_86 3 rfl ?_
  refine wp_if_ne (tgt := 106) X dX10_know_88 (by decide) (fun hc => ?_) (fun hc => ?_)
  · have h := ite_f h hc
    exact w_School_know_b106 X Y  h
  · have h := ite_t h hc
    refine wp_aload_n X dX10_know_91 0 rfl ?_
    refine gf_X10_53 (o' := 52) X sh_0 rfl dX10_know_92 ?_
    refine gf_X10_290 X sh_52 dX10_know_95 ?_
    refine wp_bipush X dX10_know_98 bi_12 ?_
    refine wp_icmp_lt (tgt := 106) X dX10_know_100 (by decide) (fun hc => ?_) (fun hc => ?_)
    · have h := ite_t h hc
      exact w_School_know_b106 X Y  h
    · have h := ite_f h hc
      refine wp_iconst X dX10_know_103 ic_5 ?_
      refine wp_istore (L' := [(4, .int 5), (0, .ref (ad Γ 0)), (1, .int x1), (2, .long x2)]) X dX10_know_104 (by decide) rfl ?_
      refine wp_sub X [1, 2, 3, 0] rfl ?_
      exact w_School_know_b106 X Y  h

set_option maxRecDepth 100000 in
set_option maxHeartbeats 4000000 in
theorem w_School_know_b66 {Γ : Ctx} {Q : Int32 → MI → MJ → Prop} {x1 : Int32} {x2 : Int64} {x4 : Int32}  (X : Cx Γ cX10_know 6 RX10 5) (Y : Rt Γ (Pi Q) (Option.some Jvm.ClassFile.FieldType.int))   {I : MI} {J : MJ} (h : f_School_know_b66 x1 x2 x4 Q I J) : Wp Γ 6 66 [(0, .ref (ad Γ 0)), (1, .int x1), (2, .long x2), (4, .int x4)] [] I J := by
  unfold f_School_know_b66 at h
  refine wp_iload X dX10_know_66 3 rfl ?_
  refine wp_if_ne (tgt := 86) X dX10_know_68 (by decide) (fun hc => ?_) (fun hc => ?_)
  · have h := ite_f h hc
    exact w_School_know_b86 X Y  h
  · have h := ite_t h hc
    refine wp_aload_n X dX10_know_71 0 rfl ?_
    refine gf_X10_53 (o' := 52) X sh_0 rfl dX10_know_72 ?_
    refine wp_lload_n X dX10_know_75 2 rfl ?_
    refine cv_Known_holds X dX10_know_76 ml_X10_287  h (Nat.le_of_ble_eq_true rfl) (by decide) (fun r76 I76 J76 h => ?_)
    refine wp_if_eq (tgt := 86) X dX10_know_79 (by decide) (fun hc => ?_) (fun hc => ?_)
    · have h := ite_t h hc
      exact w_School_know_b86 X Y  h
    · have h := ite_f h hc
      refine wp_bipush X dX10_know_82 bi_6 ?_
      refine wp_istore (L' := [(4, .int 6), (0, .ref (ad Γ 0)), (1, .int x1), (2, .long x2)]) X dX10_know_84 (by decide) rfl ?_
      refine wp_sub X [1, 2, 3, 0] rfl ?_
      exact w_School_know_b86 X Y  h

set_option maxRecDepth 100000 in
set_option maxHeartbeats 4000000 in
theorem w_School_know_b42 {Γ : Ctx} {Q : Int32 → MI → MJ → Prop} {x1 : Int32} {x2 : Int64} {x4 : Int32}  (X : Cx Γ cX10_know 6 RX10 5) (Y : Rt Γ (Pi Q) (Option.some Jvm.ClassFile.FieldType.int))   {I : MI} {J : MJ} (h : f_School_know_b42 x1 x2 x4 Q I J) : Wp Γ 6 42 [(0, .ref (ad Γ 0)), (1, .int x1), (2, .long x2), (4, .int x4)] [] I J := by
  unfold f_School_know_b42 at h
  refine wp_iload X dX10_know_42 3 rfl ?_
  refine wp_if_ne (tgt := 66) X dX10_know_44 (by decide) (fun hc => ?_) (fun hc => ?_)
  · have h := ite_f h hc
    exact w_School_know_b66 X Y  h
  · have h := ite_t h hc
    refine wp_aload_n X dX10_know_47 0 rfl ?_
    refine gf_X10_11 (o' := 1) X sh_0 rfl dX10_know_48 ?_
    refine wp_iload_n X dX10_know_51 1 rfl ?_
    obtain ⟨hb52, h⟩ := h
    refine wp_aald X sh_1 hb52 dX10_know_52 ?_
    refine wp_lload_n X dX10_know_53 2 rfl ?_
    refine cv_Place_answerTo X dX10_know_54 ml_X10_176 (okP_at hb52) h (Nat.le_of_ble_eq_true rfl) (by decide) (fun r54 I54 J54 h => ?_)
    refine cs_School_isAnswer X dX10_know_57 ml_X10_180  h (Nat.le_of_ble_eq_true rfl) (by decide) (fun r57 I57 J57 h => ?_)
    refine wp_if_ne (tgt := 66) X dX10_know_60 (by decide) (fun hc => ?_) (fun hc => ?_)
    · have h := ite_f h hc
      exact w_School_know_b66 X Y  h
    · have h := ite_t h hc
      refine wp_iconst X dX10_know_63 ic_1 ?_
      refine wp_istore (L' := [(4, .int 1), (0, .ref (ad Γ 0)), (1, .int x1), (2, .long x2)]) X dX10_know_64 (by decide) rfl ?_
      refine wp_sub X [1, 2, 3, 0] rfl ?_
      exact w_School_know_b66 X Y  h

set_option maxRecDepth 100000 in
set_option maxHeartbeats 4000000 in
theorem w_School_know_b27 {Γ : Ctx} {Q : Int32 → MI → MJ → Prop} {x1 : Int32} {x2 : Int64} {x4 : Int32}  (X : Cx Γ cX10_know 6 RX10 5) (Y : Rt Γ (Pi Q) (Option.some Jvm.ClassFile.FieldType.int))   {I : MI} {J : MJ} (h : f_School_know_b27 x1 x2 x4 Q I J) : Wp Γ 6 27 [(0, .ref (ad Γ 0)), (1, .int x1), (2, .long x2), (4, .int x4)] [] I J := by
  unfold f_School_know_b27 at h
  refine wp_iload X dX10_know_27 3 rfl ?_
  refine wp_if_ne (tgt := 42) X dX10_know_29 (by decide) (fun hc => ?_) (fun hc => ?_)
  · have h := ite_f h hc
    exact w_School_know_b42 X Y  h
  · have h := ite_t h hc
    refine wp_lload_n X dX10_know_32 2 rfl ?_
    refine cs_Words_isWord X dX10_know_33 ml_X10_170  h (Nat.le_of_ble_eq_true rfl) (by decide) (fun r33 I33 J33 h => ?_)
    refine wp_if_ne (tgt := 42) X dX10_know_36 (by decide) (fun hc => ?_) (fun hc => ?_)
    · have h := ite_f h hc
      exact w_School_know_b42 X Y  h
    · have h := ite_t h hc
      refine wp_iconst X dX10_know_39 ic_2 ?_
      refine wp_istore (L' := [(4, .int 2), (0, .ref (ad Γ 0)), (1, .int x1), (2, .long x2)]) X dX10_know_40 (by decide) rfl ?_
      refine wp_sub X [1, 2, 3, 0] rfl ?_
      exact w_School_know_b42 X Y  h

set_option maxRecDepth 100000 in
set_option maxHeartbeats 4000000 in
theorem w_School_know_b0 {Γ : Ctx} {Q : Int32 → MI → MJ → Prop} {x1 : Int32} {x2 : Int64}  (X : Cx Γ cX10_know 6 RX10 5) (Y : Rt Γ (Pi Q) (Option.some Jvm.ClassFile.FieldType.int))   {I : MI} {J : MJ} (h : f_School_know x1 x2 I J Q) : Wp Γ 6 0 [(0, .ref (ad Γ 0)), (1, .int x1), (2, .long x2)] [] I J := by
  unfold f_School_know at h
  refine wp_aload_n X dX10_know_0 0 rfl ?_
  refine wp_iload_n X dX10_know_1 1 rfl ?_
  refine cv_School_thingFault X dX10_know_2 ml_X10_147  h (Nat.le_of_ble_eq_true rfl) (by decide) (fun r2 I2 J2 h => ?_)
  refine wp_istore (L' := [(4, .int r2), (0, .ref (ad Γ 0)), (1, .int x1), (2, .long x2)]) X dX10_know_5 (by decide) rfl ?_
  refine wp_iload X dX10_know_7 0 rfl ?_
  refine wp_if_ne (tgt := 27) X dX10_know_9 (by decide) (fun hc => ?_) (fun hc => ?_)
  · have h := ite_f h hc
    refine wp_sub X [1, 2, 3, 0] rfl ?_
    exact w_School_know_b27 X Y  h
  · have h := ite_t h hc
    refine wp_aload_n X dX10_know_12 1 rfl ?_
    refine gf_X10_11 (o' := 1) X sh_0 rfl dX10_know_13 ?_
    refine wp_iload_n X dX10_know_16 2 rfl ?_
    obtain ⟨hb17, h⟩ := h
    refine wp_aald X sh_1 hb17 dX10_know_17 ?_
    refine cv_Place_hasMachine X dX10_know_18 ml_X10_153 (okP_at hb17) h (Nat.le_of_ble_eq_true rfl) (by decide) (fun r18 I18 J18 h => ?_)
    refine wp_if_eq (tgt := 27) X dX10_know_21 (by decide) (fun hc => ?_) (fun hc => ?_)
    · have h := ite_t h hc
      refine wp_sub X [1, 2, 3, 0] rfl ?_
      exact w_School_know_b27 X Y  h
    · have h := ite_f h hc
      refine wp_iconst X dX10_know_24 ic_4 ?_
      refine wp_istore (L' := [(4, .int 4), (0, .ref (ad Γ 0)), (1, .int x1), (2, .long x2)]) X dX10_know_25 (by decide) rfl ?_
      refine wp_sub X [1, 2, 3, 0] rfl ?_
      exact w_School_know_b27 X Y  h

theorem c_School_know {l : Launch} {g : GE} (hg : Inj g) {I : MI} {J : MJ} {Q : Int32 → MI → MJ → Prop} {x1 : Int32} {x2 : Int64}  (h : f_School_know x1 x2 I J Q) : Cm l g yX10_know cX10_know 6 (Option.some Jvm.ClassFile.FieldType.int) 5 [.ref (g.1 0), .int x1, .long x2] I J (Pi Q) := by
  refine Cm.of (As := fun ad => [.ref (ad 0), .int x1, .long x2]) hg pn_X10 (Nat.le_of_ble_eq_true rfl) ?_
  exact (fun Γ _ _ X Y => w_School_know_b0 X Y  h)
theorem cv_School_know {Γ : Ctx} {cc : ByteArray} {nL d pc index : Nat} {own : String} {L : List (Nat × Value)} {rest : List Value} {I : MI} {J : MJ} {Q : Int32 → MI → MJ → Prop} {x1 : Int32} {x2 : Int64} (X : Cx Γ cc nL own d) (hd : decode cc pc = .ok (.invokevirtual index, 3)) (hlink : Cond.methodLink own index yX10_know ∈ TT)  (h : f_School_know x1 x2 I J Q) (hrest : (rest.map fun v => v.category).sum ≤ 8) (hdd : 5 + 1 ≤ d) (kk : ∀ (r : Int32) (I' : MI) (J' : MJ), Q r I' J' → Wp Γ nL (pc + 3) L (.int r :: rest) I' J') : Wp Γ nL pc L (.long x2 :: .int x1 :: .ref (ad Γ 0) :: rest) I J :=
  wp_callV (As := [.int x1, .long x2]) (rest := rest) (T := TX10) (N := 9) X hd hlink mv_X10_know sh_0 (by decide) rfl (c_School_know X.inj  h) rfl rfl hrest hdd (fun v I' J' hv => by obtain ⟨r, rfl, hq⟩ := hv; exact kk r I' J' hq)
theorem dX10_unknow_0 : decode cX10_unknow 0 = .ok (.aload_n 0, 1) := by decide +kernel
theorem dX10_unknow_1 : decode cX10_unknow 1 = .ok (.getfield 53, 3) := by decide +kernel
theorem dX10_unknow_4 : decode cX10_unknow 4 = .ok (.getfield 290, 3) := by decide +kernel
theorem dX10_unknow_7 : decode cX10_unknow 7 = .ok (.istore_n 1, 1) := by decide +kernel
theorem dX10_unknow_8 : decode cX10_unknow 8 = .ok (.aload_n 0, 1) := by decide +kernel
theorem dX10_unknow_9 : decode cX10_unknow 9 = .ok (.getfield 53, 3) := by decide +kernel
theorem dX10_unknow_12 : decode cX10_unknow 12 = .ok (.iconst 0, 1) := by decide +kernel
theorem dX10_unknow_13 : decode cX10_unknow 13 = .ok (.putfield 290, 3) := by decide +kernel
theorem dX10_unknow_16 : decode cX10_unknow 16 = .ok (.aload_n 0, 1) := by decide +kernel
theorem dX10_unknow_17 : decode cX10_unknow 17 = .ok (.iload_n 1, 1) := by decide +kernel
theorem dX10_unknow_18 : decode cX10_unknow 18 = .ok (.invokevirtual 86, 3) := by decide +kernel
theorem dX10_unknow_21 : decode cX10_unknow 21 = .ok (.ireturn, 1) := by decide +kernel
def f_School_unknow (I : MI) (J : MJ) (Q : Int32 → MI → MJ → Prop) : Prop :=
  ∀ t7 : Int32, t7 = I 52 0 → ∀ I13 : MI, I13 = sI I 52 (upd (I 52) 0 0) → f_School_done t7 I13 J (fun r18 I18 J18 => Q r18 I18 J18)
set_option maxRecDepth 100000 in
set_option maxHeartbeats 4000000 in
theorem w_School_unknow_b0 {Γ : Ctx} {Q : Int32 → MI → MJ → Prop}   (X : Cx Γ cX10_unknow 2 RX10 1) (Y : Rt Γ (Pi Q) (Option.some Jvm.ClassFile.FieldType.int))   {I : MI} {J : MJ} (h : f_School_unknow  I J Q) : Wp Γ 2 0 [(0, .ref (ad Γ 0))] [] I J := by
  unfold f_School_unknow at h
  refine wp_aload_n X dX10_unknow_0 0 rfl ?_
  refine gf_X10_53 (o' := 52) X sh_0 rfl dX10_unknow_1 ?_
  refine gf_X10_290 X sh_52 dX10_unknow_4 ?_
  refine wp_topi (fun t7 et7 => ?_)
  have h := h t7 et7
  refine wp_istore_n (L' := [(1, .int t7), (0, .ref (ad Γ 0))]) X dX10_unknow_7 rfl (by decide) rfl ?_
  refine wp_aload_n X dX10_unknow_8 1 rfl ?_
  refine gf_X10_53 (o' := 52) X sh_0 rfl dX10_unknow_9 ?_
  refine wp_iconst X dX10_unknow_12 ic_0 ?_
  refine pf_X10_290 X sh_52 dX10_unknow_13 (fun I13 eI13 => ?_)
  have h := h I13 eI13
  refine wp_aload_n X dX10_unknow_16 1 rfl ?_
  refine wp_iload_n X dX10_unknow_17 0 rfl ?_
  refine cv_School_done X dX10_unknow_18 ml_X10_86  h (Nat.le_of_ble_eq_true rfl) (by decide) (fun r18 I18 J18 h => ?_)
  exact wp_iret X Y dX10_unknow_21 ⟨_, rfl, h⟩

theorem c_School_unknow {l : Launch} {g : GE} (hg : Inj g) {I : MI} {J : MJ} {Q : Int32 → MI → MJ → Prop}   (h : f_School_unknow  I J Q) : Cm l g yX10_unknow cX10_unknow 2 (Option.some Jvm.ClassFile.FieldType.int) 1 [.ref (g.1 0)] I J (Pi Q) := by
  refine Cm.of (As := fun ad => [.ref (ad 0)]) hg pn_X10 (Nat.le_of_ble_eq_true rfl) ?_
  exact (fun Γ _ _ X Y => w_School_unknow_b0 X Y  h)
theorem cv_School_unknow {Γ : Ctx} {cc : ByteArray} {nL d pc index : Nat} {own : String} {L : List (Nat × Value)} {rest : List Value} {I : MI} {J : MJ} {Q : Int32 → MI → MJ → Prop}  (X : Cx Γ cc nL own d) (hd : decode cc pc = .ok (.invokevirtual index, 3)) (hlink : Cond.methodLink own index yX10_unknow ∈ TT)  (h : f_School_unknow  I J Q) (hrest : (rest.map fun v => v.category).sum ≤ 8) (hdd : 1 + 1 ≤ d) (kk : ∀ (r : Int32) (I' : MI) (J' : MJ), Q r I' J' → Wp Γ nL (pc + 3) L (.int r :: rest) I' J') : Wp Γ nL pc L (.ref (ad Γ 0) :: rest) I J :=
  wp_callV (As := []) (rest := rest) (T := TX10) (N := 9) X hd hlink mv_X10_unknow sh_0 (by decide) rfl (c_School_unknow X.inj  h) rfl rfl hrest hdd (fun v I' J' hv => by obtain ⟨r, rfl, hq⟩ := hv; exact kk r I' J' hq)
theorem dX2_signsUsed_0 : decode cX2_signsUsed 0 = .ok (.iconst 1, 1) := by decide +kernel
theorem dX2_signsUsed_1 : decode cX2_signsUsed 1 = .ok (.istore_n 1, 1) := by decide +kernel
theorem dX2_signsUsed_2 : decode cX2_signsUsed 2 = .ok (.iconst 0, 1) := by decide +kernel
theorem dX2_signsUsed_3 : decode cX2_signsUsed 3 = .ok (.istore_n 2, 1) := by decide +kernel
theorem dX2_signsUsed_4 : decode cX2_signsUsed 4 = .ok (.iload_n 2, 1) := by decide +kernel
theorem dX2_signsUsed_5 : decode cX2_signsUsed 5 = .ok (.aload_n 0, 1) := by decide +kernel
theorem dX2_signsUsed_6 : decode cX2_signsUsed 6 = .ok (.getfield 34, 3) := by decide +kernel
theorem dX2_signsUsed_9 : decode cX2_signsUsed 9 = .ok (.if_icmp .ge 44, 3) := by decide +kernel
theorem dX2_signsUsed_12 : decode cX2_signsUsed 12 = .ok (.iconst 0, 1) := by decide +kernel
theorem dX2_signsUsed_13 : decode cX2_signsUsed 13 = .ok (.istore_n 3, 1) := by decide +kernel
theorem dX2_signsUsed_14 : decode cX2_signsUsed 14 = .ok (.iload_n 3, 1) := by decide +kernel
theorem dX2_signsUsed_15 : decode cX2_signsUsed 15 = .ok (.aload_n 0, 1) := by decide +kernel
theorem dX2_signsUsed_16 : decode cX2_signsUsed 16 = .ok (.getfield 22, 3) := by decide +kernel
theorem dX2_signsUsed_19 : decode cX2_signsUsed 19 = .ok (.iload_n 2, 1) := by decide +kernel
theorem dX2_signsUsed_20 : decode cX2_signsUsed 20 = .ok (.iaload, 1) := by decide +kernel
theorem dX2_signsUsed_21 : decode cX2_signsUsed 21 = .ok (.if_icmp .ge 26, 3) := by decide +kernel
theorem dX2_signsUsed_24 : decode cX2_signsUsed 24 = .ok (.iload_n 1, 1) := by decide +kernel
theorem dX2_signsUsed_25 : decode cX2_signsUsed 25 = .ok (.aload_n 0, 1) := by decide +kernel
theorem dX2_signsUsed_26 : decode cX2_signsUsed 26 = .ok (.getfield 9, 3) := by decide +kernel
theorem dX2_signsUsed_29 : decode cX2_signsUsed 29 = .ok (.iload_n 2, 1) := by decide +kernel
theorem dX2_signsUsed_30 : decode cX2_signsUsed 30 = .ok (.laload, 1) := by decide +kernel
theorem dX2_signsUsed_31 : decode cX2_signsUsed 31 = .ok (.iload_n 3, 1) := by decide +kernel
theorem dX2_signsUsed_32 : decode cX2_signsUsed 32 = .ok (.invokestatic 70, 3) := by decide +kernel
theorem dX2_signsUsed_35 : decode cX2_signsUsed 35 = .ok (.iconst 1, 1) := by decide +kernel
theorem dX2_signsUsed_36 : decode cX2_signsUsed 36 = .ok (.iadd, 1) := by decide +kernel
theorem dX2_signsUsed_37 : decode cX2_signsUsed 37 = .ok (.invokestatic 74, 3) := by decide +kernel
theorem dX2_signsUsed_40 : decode cX2_signsUsed 40 = .ok (.istore_n 1, 1) := by decide +kernel
theorem dX2_signsUsed_41 : decode cX2_signsUsed 41 = .ok (.iinc 3 1, 3) := by decide +kernel
theorem dX2_signsUsed_44 : decode cX2_signsUsed 44 = .ok (.goto (-30), 3) := by decide +kernel
theorem dX2_signsUsed_47 : decode cX2_signsUsed 47 = .ok (.iinc 2 1, 3) := by decide +kernel
theorem dX2_signsUsed_50 : decode cX2_signsUsed 50 = .ok (.goto (-46), 3) := by decide +kernel
theorem dX2_signsUsed_53 : decode cX2_signsUsed 53 = .ok (.iload_n 1, 1) := by decide +kernel
theorem dX2_signsUsed_54 : decode cX2_signsUsed 54 = .ok (.ireturn, 1) := by decide +kernel
def f_Known_signsUsed_L14 (x2 : Int32) (k47 : Int32 → MI → MJ → Prop) : Nat → Int32 → Int32 → MI → MJ → Prop
  | 0, _, _, _, _ => False
  | nf14 + 1, x1, x3, I, J =>
  vp_in x2 12 ∧ (if (I 56 x2.toNatClampNeg) ≤ x3 then k47 x1 I J else vp_in x2 12 ∧ f_Words_signAt (J 53 x2.toNatClampNeg) x3 I J (fun r32 I32 J32 => ∀ t40 : Int32, t40 = (if x1 < (r32 + 1) then r32 + 1 else x1) → ∀ t41 : Int32, t41 = x3 + 1 → f_Known_signsUsed_L14 x2 k47 nf14 t40 t41 I32 J32))
def f_Known_signsUsed_L4 (k53 : Int32 → MI → MJ → Prop) : Nat → Int32 → Int32 → MI → MJ → Prop
  | 0, _, _, _, _ => False
  | nf4 + 1, x1, x2, I, J =>
  (if (I 52 0) ≤ x2 then k53 x1 I J else ∃ n, f_Known_signsUsed_L14 x2 (fun (z47_x1 : Int32) (I : MI) (J : MJ) => ∀ t47 : Int32, t47 = x2 + 1 → f_Known_signsUsed_L4 k53 nf4 z47_x1 t47 I J) n x1 0 I J)
def f_Known_signsUsed (I : MI) (J : MJ) (Q : Int32 → MI → MJ → Prop) : Prop :=
  ∃ n, f_Known_signsUsed_L4 (fun (z53_x1 : Int32) (I : MI) (J : MJ) => Q z53_x1 I J) n 1 0 I J
set_option maxRecDepth 100000 in
set_option maxHeartbeats 4000000 in
theorem w_Known_signsUsed_L14 {Γ : Ctx} {Q : Int32 → MI → MJ → Prop} {x2 : Int32} {k47 : Int32 → MI → MJ → Prop} (X : Cx Γ cX2_signsUsed 4 RX2 1) (Y : Rt Γ (Pi Q) (Option.some Jvm.ClassFile.FieldType.int))  (hk47 : ∀ (x1 : Int32) (I : MI) (J : MJ), k47 x1 I J → Wp Γ 4 47 [(0, .ref (ad Γ 52)), (1, .int x1), (2, .int x2)] [] I J) : ∀ (n : Nat) (x1 : Int32) (x3 : Int32) (I : MI) (J : MJ), f_Known_signsUsed_L14 x2 k47 n x1 x3 I J → Wp Γ 4 14 [(0, .ref (ad Γ 52)), (1, .int x1), (2, .int x2), (3, .int x3)] [] I J := by
  intro n
  induction n with
  | zero => intro x1 x3 I J h; exact absurd h (by simp [f_Known_signsUsed_L14])
  | succ n ih =>
  intro x1 x3 I J h
  unfold f_Known_signsUsed_L14 at h
  refine wp_iload_n X dX2_signsUsed_14 3 rfl ?_
  refine wp_aload_n X dX2_signsUsed_15 0 rfl ?_
  refine gf_X2_22 (o' := 56) X sh_52 rfl dX2_signsUsed_16 ?_
  refine wp_iload_n X dX2_signsUsed_19 2 rfl ?_
  obtain ⟨hb20, h⟩ := h
  refine wp_iald X sh_56 hb20 dX2_signsUsed_20 ?_
  refine wp_icmp_ge (tgt := 47) X dX2_signsUsed_21 (by decide) (fun hc => ?_) (fun hc => ?_)
  · have h := ite_t h hc
    refine wp_sub X [0, 1, 2] rfl ?_
    exact hk47 _ _ _ h
  · have h := ite_f h hc
    refine wp_iload_n X dX2_signsUsed_24 1 rfl ?_
    refine wp_aload_n X dX2_signsUsed_25 0 rfl ?_
    refine gf_X2_9 (o' := 53) X sh_52 rfl dX2_signsUsed_26 ?_
    refine wp_iload_n X dX2_signsUsed_29 2 rfl ?_
    obtain ⟨hb30, h⟩ := h
    refine wp_lald X sh_53 hb30 dX2_signsUsed_30 ?_
    refine wp_iload_n X dX2_signsUsed_31 3 rfl ?_
    refine cs_Words_signAt X dX2_signsUsed_32 ml_X2_70  h (Nat.le_of_ble_eq_true rfl) (by decide) (fun r32 I32 J32 h => ?_)
    refine wp_iconst X dX2_signsUsed_35 ic_1 ?_
    refine wp_iadd X dX2_signsUsed_36 ?_
    refine wp_max X dX2_signsUsed_37 ml_X2_74 mw_max (by decide) (Nat.le_of_ble_eq_true rfl) ?_
    refine wp_topi (fun t40 et40 => ?_)
    have h := h t40 et40
    refine wp_istore_n (L' := [(1, .int t40), (0, .ref (ad Γ 52)), (2, .int x2), (3, .int x3)]) X dX2_signsUsed_40 rfl (by decide) rfl ?_
    obtain ⟨t41, et41⟩ : ∃ y : Int32, y = x3 + 1 := ⟨_, rfl⟩
    have h := h t41 et41
    refine wp_iinc (L' := [(3, .int t41), (1, .int t40), (0, .ref (ad Γ 52)), (2, .int x2)]) X dX2_signsUsed_41 3 rfl (ii_1 et41) (by decide) rfl ?_
    refine wp_goto (tgt := 14) X dX2_signsUsed_44 (by decide) ?_
    refine wp_sub X [2, 1, 3, 0] rfl ?_
    exact ih _ _ _ _ h

set_option maxRecDepth 100000 in
set_option maxHeartbeats 4000000 in
theorem w_Known_signsUsed_L4 {Γ : Ctx} {Q : Int32 → MI → MJ → Prop}  {k53 : Int32 → MI → MJ → Prop} (X : Cx Γ cX2_signsUsed 4 RX2 1) (Y : Rt Γ (Pi Q) (Option.some Jvm.ClassFile.FieldType.int))  (hk53 : ∀ (x1 : Int32) (I : MI) (J : MJ), k53 x1 I J → Wp Γ 4 53 [(1, .int x1)] [] I J) : ∀ (n : Nat) (x1 : Int32) (x2 : Int32) (I : MI) (J : MJ), f_Known_signsUsed_L4 k53 n x1 x2 I J → Wp Γ 4 4 [(0, .ref (ad Γ 52)), (1, .int x1), (2, .int x2)] [] I J := by
  intro n
  induction n with
  | zero => intro x1 x2 I J h; exact absurd h (by simp [f_Known_signsUsed_L4])
  | succ n ih =>
  intro x1 x2 I J h
  unfold f_Known_signsUsed_L4 at h
  refine wp_iload_n X dX2_signsUsed_4 2 rfl ?_
  refine wp_aload_n X dX2_signsUsed_5 0 rfl ?_
  refine gf_X2_34 X sh_52 dX2_signsUsed_6 ?_
  refine wp_icmp_ge (tgt := 53) X dX2_signsUsed_9 (by decide) (fun hc => ?_) (fun hc => ?_)
  · have h := ite_t h hc
    refine wp_sub X [1] rfl ?_
    exact hk53 _ _ _ h
  · have h := ite_f h hc
    refine wp_iconst X dX2_signsUsed_12 ic_0 ?_
    refine wp_istore_n (L' := [(3, .int 0), (0, .ref (ad Γ 52)), (1, .int x1), (2, .int x2)]) X dX2_signsUsed_13 rfl (by decide) rfl ?_
    obtain ⟨n, h⟩ := h
    refine wp_sub X [1, 2, 3, 0] rfl ?_
    refine w_Known_signsUsed_L14 X Y  ?_ n _ _ _ _ h
    · intro z47_x1 I J h
      obtain ⟨t47, et47⟩ : ∃ y : Int32, y = x2 + 1 := ⟨_, rfl⟩
      have h := h t47 et47
      refine wp_iinc (L' := [(2, .int t47), (0, .ref (ad Γ 52)), (1, .int z47_x1)]) X dX2_signsUsed_47 2 rfl (ii_1 et47) (by decide) rfl ?_
      refine wp_goto (tgt := 4) X dX2_signsUsed_50 (by decide) ?_
      refine wp_sub X [1, 2, 0] rfl ?_
      exact ih _ _ _ _ h

set_option maxRecDepth 100000 in
set_option maxHeartbeats 4000000 in
theorem w_Known_signsUsed_b0 {Γ : Ctx} {Q : Int32 → MI → MJ → Prop}   (X : Cx Γ cX2_signsUsed 4 RX2 1) (Y : Rt Γ (Pi Q) (Option.some Jvm.ClassFile.FieldType.int))   {I : MI} {J : MJ} (h : f_Known_signsUsed  I J Q) : Wp Γ 4 0 [(0, .ref (ad Γ 52))] [] I J := by
  unfold f_Known_signsUsed at h
  refine wp_iconst X dX2_signsUsed_0 ic_1 ?_
  refine wp_istore_n (L' := [(1, .int 1), (0, .ref (ad Γ 52))]) X dX2_signsUsed_1 rfl (by decide) rfl ?_
  refine wp_iconst X dX2_signsUsed_2 ic_0 ?_
  refine wp_istore_n (L' := [(2, .int 0), (1, .int 1), (0, .ref (ad Γ 52))]) X dX2_signsUsed_3 rfl (by decide) rfl ?_
  obtain ⟨n, h⟩ := h
  refine wp_sub X [2, 1, 0] rfl ?_
  refine w_Known_signsUsed_L4 X Y  ?_ n _ _ _ _ h
  · intro z53_x1 I J h
    refine wp_iload_n X dX2_signsUsed_53 0 rfl ?_
    exact wp_iret X Y dX2_signsUsed_54 ⟨_, rfl, h⟩

theorem c_Known_signsUsed {l : Launch} {g : GE} (hg : Inj g) {I : MI} {J : MJ} {Q : Int32 → MI → MJ → Prop}   (h : f_Known_signsUsed  I J Q) : Cm l g yX2_signsUsed cX2_signsUsed 4 (Option.some Jvm.ClassFile.FieldType.int) 1 [.ref (g.1 52)] I J (Pi Q) := by
  refine Cm.of (As := fun ad => [.ref (ad 52)]) hg pn_X2 (Nat.le_of_ble_eq_true rfl) ?_
  exact (fun Γ _ _ X Y => w_Known_signsUsed_b0 X Y  h)
theorem cv_Known_signsUsed {Γ : Ctx} {cc : ByteArray} {nL d pc index : Nat} {own : String} {L : List (Nat × Value)} {rest : List Value} {I : MI} {J : MJ} {Q : Int32 → MI → MJ → Prop}  (X : Cx Γ cc nL own d) (hd : decode cc pc = .ok (.invokevirtual index, 3)) (hlink : Cond.methodLink own index yX2_signsUsed ∈ TT)  (h : f_Known_signsUsed  I J Q) (hrest : (rest.map fun v => v.category).sum ≤ 8) (hdd : 1 + 1 ≤ d) (kk : ∀ (r : Int32) (I' : MI) (J' : MJ), Q r I' J' → Wp Γ nL (pc + 3) L (.int r :: rest) I' J') : Wp Γ nL pc L (.ref (ad Γ 52) :: rest) I J :=
  wp_callV (As := []) (rest := rest) (T := TX2) (N := 8) X hd hlink mv_X2_signsUsed sh_52 (by decide) rfl (c_Known_signsUsed X.inj  h) rfl rfl hrest hdd (fun v I' J' hv => by obtain ⟨r, rfl, hq⟩ := hv; exact kk r I' J' hq)
theorem dJ6_bitCount_0f7a4_0 : decode cJ6_bitCount_0f7a4 0 = .ok (.iload_n 0, 1) := by decide +kernel
theorem dJ6_bitCount_0f7a4_1 : decode cJ6_bitCount_0f7a4 1 = .ok (.iload_n 0, 1) := by decide +kernel
theorem dJ6_bitCount_0f7a4_2 : decode cJ6_bitCount_0f7a4 2 = .ok (.iconst 1, 1) := by decide +kernel
theorem dJ6_bitCount_0f7a4_3 : decode cJ6_bitCount_0f7a4 3 = .ok (.iushr, 1) := by decide +kernel
theorem dJ6_bitCount_0f7a4_4 : decode cJ6_bitCount_0f7a4 4 = .ok (.ldc_w 265, 3) := by decide +kernel
theorem dJ6_bitCount_0f7a4_7 : decode cJ6_bitCount_0f7a4 7 = .ok (.iand, 1) := by decide +kernel
theorem dJ6_bitCount_0f7a4_8 : decode cJ6_bitCount_0f7a4 8 = .ok (.isub, 1) := by decide +kernel
theorem dJ6_bitCount_0f7a4_9 : decode cJ6_bitCount_0f7a4 9 = .ok (.istore_n 0, 1) := by decide +kernel
theorem dJ6_bitCount_0f7a4_10 : decode cJ6_bitCount_0f7a4 10 = .ok (.iload_n 0, 1) := by decide +kernel
theorem dJ6_bitCount_0f7a4_11 : decode cJ6_bitCount_0f7a4 11 = .ok (.ldc_w 266, 3) := by decide +kernel
theorem dJ6_bitCount_0f7a4_14 : decode cJ6_bitCount_0f7a4 14 = .ok (.iand, 1) := by decide +kernel
theorem dJ6_bitCount_0f7a4_15 : decode cJ6_bitCount_0f7a4 15 = .ok (.iload_n 0, 1) := by decide +kernel
theorem dJ6_bitCount_0f7a4_16 : decode cJ6_bitCount_0f7a4 16 = .ok (.iconst 2, 1) := by decide +kernel
theorem dJ6_bitCount_0f7a4_17 : decode cJ6_bitCount_0f7a4 17 = .ok (.iushr, 1) := by decide +kernel
theorem dJ6_bitCount_0f7a4_18 : decode cJ6_bitCount_0f7a4 18 = .ok (.ldc_w 266, 3) := by decide +kernel
theorem dJ6_bitCount_0f7a4_21 : decode cJ6_bitCount_0f7a4 21 = .ok (.iand, 1) := by decide +kernel
theorem dJ6_bitCount_0f7a4_22 : decode cJ6_bitCount_0f7a4 22 = .ok (.iadd, 1) := by decide +kernel
theorem dJ6_bitCount_0f7a4_23 : decode cJ6_bitCount_0f7a4 23 = .ok (.istore_n 0, 1) := by decide +kernel
theorem dJ6_bitCount_0f7a4_24 : decode cJ6_bitCount_0f7a4 24 = .ok (.iload_n 0, 1) := by decide +kernel
theorem dJ6_bitCount_0f7a4_25 : decode cJ6_bitCount_0f7a4 25 = .ok (.iload_n 0, 1) := by decide +kernel
theorem dJ6_bitCount_0f7a4_26 : decode cJ6_bitCount_0f7a4 26 = .ok (.iconst 4, 1) := by decide +kernel
theorem dJ6_bitCount_0f7a4_27 : decode cJ6_bitCount_0f7a4 27 = .ok (.iushr, 1) := by decide +kernel
theorem dJ6_bitCount_0f7a4_28 : decode cJ6_bitCount_0f7a4 28 = .ok (.iadd, 1) := by decide +kernel
theorem dJ6_bitCount_0f7a4_29 : decode cJ6_bitCount_0f7a4 29 = .ok (.ldc_w 267, 3) := by decide +kernel
theorem dJ6_bitCount_0f7a4_32 : decode cJ6_bitCount_0f7a4 32 = .ok (.iand, 1) := by decide +kernel
theorem dJ6_bitCount_0f7a4_33 : decode cJ6_bitCount_0f7a4 33 = .ok (.istore_n 0, 1) := by decide +kernel
theorem dJ6_bitCount_0f7a4_34 : decode cJ6_bitCount_0f7a4 34 = .ok (.iload_n 0, 1) := by decide +kernel
theorem dJ6_bitCount_0f7a4_35 : decode cJ6_bitCount_0f7a4 35 = .ok (.iload_n 0, 1) := by decide +kernel
theorem dJ6_bitCount_0f7a4_36 : decode cJ6_bitCount_0f7a4 36 = .ok (.bipush 8, 2) := by decide +kernel
theorem dJ6_bitCount_0f7a4_38 : decode cJ6_bitCount_0f7a4 38 = .ok (.iushr, 1) := by decide +kernel
theorem dJ6_bitCount_0f7a4_39 : decode cJ6_bitCount_0f7a4 39 = .ok (.iadd, 1) := by decide +kernel
theorem dJ6_bitCount_0f7a4_40 : decode cJ6_bitCount_0f7a4 40 = .ok (.istore_n 0, 1) := by decide +kernel
theorem dJ6_bitCount_0f7a4_41 : decode cJ6_bitCount_0f7a4 41 = .ok (.iload_n 0, 1) := by decide +kernel
theorem dJ6_bitCount_0f7a4_42 : decode cJ6_bitCount_0f7a4 42 = .ok (.iload_n 0, 1) := by decide +kernel
theorem dJ6_bitCount_0f7a4_43 : decode cJ6_bitCount_0f7a4 43 = .ok (.bipush 16, 2) := by decide +kernel
theorem dJ6_bitCount_0f7a4_45 : decode cJ6_bitCount_0f7a4 45 = .ok (.iushr, 1) := by decide +kernel
theorem dJ6_bitCount_0f7a4_46 : decode cJ6_bitCount_0f7a4 46 = .ok (.iadd, 1) := by decide +kernel
theorem dJ6_bitCount_0f7a4_47 : decode cJ6_bitCount_0f7a4 47 = .ok (.istore_n 0, 1) := by decide +kernel
theorem dJ6_bitCount_0f7a4_48 : decode cJ6_bitCount_0f7a4 48 = .ok (.iload_n 0, 1) := by decide +kernel
theorem dJ6_bitCount_0f7a4_49 : decode cJ6_bitCount_0f7a4 49 = .ok (.bipush 63, 2) := by decide +kernel
theorem dJ6_bitCount_0f7a4_51 : decode cJ6_bitCount_0f7a4 51 = .ok (.iand, 1) := by decide +kernel
theorem dJ6_bitCount_0f7a4_52 : decode cJ6_bitCount_0f7a4 52 = .ok (.ireturn, 1) := by decide +kernel
def f_Integer_bitCount (x0 : Int32) (I : MI) (J : MJ) (Q : Int32 → MI → MJ → Prop) : Prop :=
  ∀ t9 : Int32, t9 = x0 - (((x0.toUInt32 >>> ((1 : Int32).toUInt32 &&& Int32.toUInt32 31)).toInt32) &&& 1431655765) → ∀ t23 : Int32, t23 = (t9 &&& 858993459) + (((t9.toUInt32 >>> ((2 : Int32).toUInt32 &&& Int32.toUInt32 31)).toInt32) &&& 858993459) → ∀ t33 : Int32, t33 = (t23 + ((t23.toUInt32 >>> ((4 : Int32).toUInt32 &&& Int32.toUInt32 31)).toInt32)) &&& 252645135 → ∀ t40 : Int32, t40 = t33 + ((t33.toUInt32 >>> ((8 : Int32).toUInt32 &&& Int32.toUInt32 31)).toInt32) → ∀ t47 : Int32, t47 = t40 + ((t40.toUInt32 >>> ((16 : Int32).toUInt32 &&& Int32.toUInt32 31)).toInt32) → Q (t47 &&& 63) I J
set_option maxRecDepth 100000 in
set_option maxHeartbeats 4000000 in
theorem w_Integer_bitCount_b0 {Γ : Ctx} {Q : Int32 → MI → MJ → Prop} {x0 : Int32}  (X : Cx Γ cJ6_bitCount_0f7a4 1 RJ6 0) (Y : Rt Γ (Pi Q) (Option.some Jvm.ClassFile.FieldType.int))   {I : MI} {J : MJ} (h : f_Integer_bitCount x0 I J Q) : Wp Γ 1 0 [(0, .int x0)] [] I J := by
  unfold f_Integer_bitCount at h
  refine wp_iload_n X dJ6_bitCount_0f7a4_0 0 rfl ?_
  refine wp_iload_n X dJ6_bitCount_0f7a4_1 0 rfl ?_
  refine wp_iconst X dJ6_bitCount_0f7a4_2 ic_1 ?_
  refine wp_iushr X dJ6_bitCount_0f7a4_3 ?_
  refine wp_ldcw X kc_J6_265 dJ6_bitCount_0f7a4_4 ?_
  refine wp_iand X dJ6_bitCount_0f7a4_7 ?_
  refine wp_isub X dJ6_bitCount_0f7a4_8 ?_
  refine wp_topi (fun t9 et9 => ?_)
  have h := h t9 et9
  refine wp_istore_n (L' := [(0, .int t9)]) X dJ6_bitCount_0f7a4_9 rfl (by decide) rfl ?_
  refine wp_iload_n X dJ6_bitCount_0f7a4_10 0 rfl ?_
  refine wp_ldcw X kc_J6_266 dJ6_bitCount_0f7a4_11 ?_
  refine wp_iand X dJ6_bitCount_0f7a4_14 ?_
  refine wp_iload_n X dJ6_bitCount_0f7a4_15 0 rfl ?_
  refine wp_iconst X dJ6_bitCount_0f7a4_16 ic_2 ?_
  refine wp_iushr X dJ6_bitCount_0f7a4_17 ?_
  refine wp_ldcw X kc_J6_266 dJ6_bitCount_0f7a4_18 ?_
  refine wp_iand X dJ6_bitCount_0f7a4_21 ?_
  refine wp_iadd X dJ6_bitCount_0f7a4_22 ?_
  refine wp_topi (fun t23 et23 => ?_)
  have h := h t23 et23
  refine wp_istore_n (L' := [(0, .int t23)]) X dJ6_bitCount_0f7a4_23 rfl (by decide) rfl ?_
  refine wp_iload_n X dJ6_bitCount_0f7a4_24 0 rfl ?_
  refine wp_iload_n X dJ6_bitCount_0f7a4_25 0 rfl ?_
  refine wp_iconst X dJ6_bitCount_0f7a4_26 ic_4 ?_
  refine wp_iushr X dJ6_bitCount_0f7a4_27 ?_
  refine wp_iadd X dJ6_bitCount_0f7a4_28 ?_
  refine wp_ldcw X kc_J6_267 dJ6_bitCount_0f7a4_29 ?_
  refine wp_iand X dJ6_bitCount_0f7a4_32 ?_
  refine wp_topi (fun t33 et33 => ?_)
  have h := h t33 et33
  refine wp_istore_n (L' := [(0, .int t33)]) X dJ6_bitCount_0f7a4_33 rfl (by decide) rfl ?_
  refine wp_iload_n X dJ6_bitCount_0f7a4_34 0 rfl ?_
  refine wp_iload_n X dJ6_bitCount_0f7a4_35 0 rfl ?_
  refine wp_bipush X dJ6_bitCount_0f7a4_36 bi_8 ?_
  refine wp_iushr X dJ6_bitCount_0f7a4_38 ?_
  refine wp_iadd X dJ6_bitCount_0f7a4_39 ?_
  refine wp_topi (fun t40 et40 => ?_)
  have h := h t40 et40
  refine wp_istore_n (L' := [(0, .int t40)]) X dJ6_bitCount_0f7a4_40 rfl (by decide) rfl ?_
  refine wp_iload_n X dJ6_bitCount_0f7a4_41 0 rfl ?_
  refine wp_iload_n X dJ6_bitCount_0f7a4_42 0 rfl ?_
  refine wp_bipush X dJ6_bitCount_0f7a4_43 bi_16 ?_
  refine wp_iushr X dJ6_bitCount_0f7a4_45 ?_
  refine wp_iadd X dJ6_bitCount_0f7a4_46 ?_
  refine wp_topi (fun t47 et47 => ?_)
  have h := h t47 et47
  refine wp_istore_n (L' := [(0, .int t47)]) X dJ6_bitCount_0f7a4_47 rfl (by decide) rfl ?_
  refine wp_iload_n X dJ6_bitCount_0f7a4_48 0 rfl ?_
  refine wp_bipush X dJ6_bitCount_0f7a4_49 bi_63 ?_
  refine wp_iand X dJ6_bitCount_0f7a4_51 ?_
  exact wp_iret X Y dJ6_bitCount_0f7a4_52 ⟨_, rfl, h⟩

theorem c_Integer_bitCount {l : Launch} {g : GE} (hg : Inj g) {I : MI} {J : MJ} {Q : Int32 → MI → MJ → Prop} {x0 : Int32}  (h : f_Integer_bitCount x0 I J Q) : Cm l g yJ6_bitCount_0f7a4 cJ6_bitCount_0f7a4 1 (Option.some Jvm.ClassFile.FieldType.int) 0 [.int x0] I J (Pi Q) := by
  refine Cm.of (As := fun ad => [.int x0]) hg pn_J6 (Nat.le_of_ble_eq_true rfl) ?_
  exact (fun Γ _ _ X Y => w_Integer_bitCount_b0 X Y  h)
theorem cs_Integer_bitCount {Γ : Ctx} {cc : ByteArray} {nL d pc index : Nat} {own : String} {L : List (Nat × Value)} {rest : List Value} {I : MI} {J : MJ} {Q : Int32 → MI → MJ → Prop} {x0 : Int32} (X : Cx Γ cc nL own d) (hd : decode cc pc = .ok (.invokestatic index, 3)) (hlink : Cond.methodLink own index yJ6_bitCount_0f7a4 ∈ TT)  (h : f_Integer_bitCount x0 I J Q) (hrest : (rest.map fun v => v.category).sum ≤ 8) (hdd : 0 + 1 ≤ d) (kk : ∀ (r : Int32) (I' : MI) (J' : MJ), Q r I' J' → Wp Γ nL (pc + 3) L (.int r :: rest) I' J') : Wp Γ nL pc L (.int x0 :: rest) I J :=
  wp_callS (As := [.int x0]) (rest := rest) X hd hlink mv_J6_bitCount_0f7a4 (c_Integer_bitCount X.inj  h) rfl rfl hrest hdd (fun v I' J' hv => by obtain ⟨r, rfl, hq⟩ := hv; exact kk r I' J' hq)
theorem dX2_unlikeAnswers_0 : decode cX2_unlikeAnswers 0 = .ok (.iconst 0, 1) := by decide +kernel
theorem dX2_unlikeAnswers_1 : decode cX2_unlikeAnswers 1 = .ok (.istore_n 1, 1) := by decide +kernel
theorem dX2_unlikeAnswers_2 : decode cX2_unlikeAnswers 2 = .ok (.iconst 0, 1) := by decide +kernel
theorem dX2_unlikeAnswers_3 : decode cX2_unlikeAnswers 3 = .ok (.istore_n 2, 1) := by decide +kernel
theorem dX2_unlikeAnswers_4 : decode cX2_unlikeAnswers 4 = .ok (.iload_n 2, 1) := by decide +kernel
theorem dX2_unlikeAnswers_5 : decode cX2_unlikeAnswers 5 = .ok (.aload_n 0, 1) := by decide +kernel
theorem dX2_unlikeAnswers_6 : decode cX2_unlikeAnswers 6 = .ok (.getfield 34, 3) := by decide +kernel
theorem dX2_unlikeAnswers_9 : decode cX2_unlikeAnswers 9 = .ok (.if_icmp .ge 20, 3) := by decide +kernel
theorem dX2_unlikeAnswers_12 : decode cX2_unlikeAnswers 12 = .ok (.iload_n 1, 1) := by decide +kernel
theorem dX2_unlikeAnswers_13 : decode cX2_unlikeAnswers 13 = .ok (.iconst 1, 1) := by decide +kernel
theorem dX2_unlikeAnswers_14 : decode cX2_unlikeAnswers 14 = .ok (.aload_n 0, 1) := by decide +kernel
theorem dX2_unlikeAnswers_15 : decode cX2_unlikeAnswers 15 = .ok (.getfield 15, 3) := by decide +kernel
theorem dX2_unlikeAnswers_18 : decode cX2_unlikeAnswers 18 = .ok (.iload_n 2, 1) := by decide +kernel
theorem dX2_unlikeAnswers_19 : decode cX2_unlikeAnswers 19 = .ok (.iaload, 1) := by decide +kernel
theorem dX2_unlikeAnswers_20 : decode cX2_unlikeAnswers 20 = .ok (.ishl, 1) := by decide +kernel
theorem dX2_unlikeAnswers_21 : decode cX2_unlikeAnswers 21 = .ok (.ior, 1) := by decide +kernel
theorem dX2_unlikeAnswers_22 : decode cX2_unlikeAnswers 22 = .ok (.istore_n 1, 1) := by decide +kernel
theorem dX2_unlikeAnswers_23 : decode cX2_unlikeAnswers 23 = .ok (.iinc 2 1, 3) := by decide +kernel
theorem dX2_unlikeAnswers_26 : decode cX2_unlikeAnswers 26 = .ok (.goto (-22), 3) := by decide +kernel
theorem dX2_unlikeAnswers_29 : decode cX2_unlikeAnswers 29 = .ok (.iload_n 1, 1) := by decide +kernel
theorem dX2_unlikeAnswers_30 : decode cX2_unlikeAnswers 30 = .ok (.invokestatic 80, 3) := by decide +kernel
theorem dX2_unlikeAnswers_33 : decode cX2_unlikeAnswers 33 = .ok (.ireturn, 1) := by decide +kernel
def f_Known_unlikeAnswers_L4 (k29 : Int32 → MI → MJ → Prop) : Nat → Int32 → Int32 → MI → MJ → Prop
  | 0, _, _, _, _ => False
  | nf4 + 1, x1, x2, I, J =>
  (if (I 52 0) ≤ x2 then k29 x1 I J else vp_in x2 12 ∧ ∀ t22 : Int32, t22 = x1 ||| (1 <<< ((I 54 x2.toNatClampNeg) &&& 31)) → ∀ t23 : Int32, t23 = x2 + 1 → f_Known_unlikeAnswers_L4 k29 nf4 t22 t23 I J)
def f_Known_unlikeAnswers (I : MI) (J : MJ) (Q : Int32 → MI → MJ → Prop) : Prop :=
  ∃ n, f_Known_unlikeAnswers_L4 (fun (z29_x1 : Int32) (I : MI) (J : MJ) => f_Integer_bitCount z29_x1 I J (fun r30 I30 J30 => Q r30 I30 J30)) n 0 0 I J
set_option maxRecDepth 100000 in
set_option maxHeartbeats 4000000 in
theorem w_Known_unlikeAnswers_L4 {Γ : Ctx} {Q : Int32 → MI → MJ → Prop}  {k29 : Int32 → MI → MJ → Prop} (X : Cx Γ cX2_unlikeAnswers 3 RX2 1) (Y : Rt Γ (Pi Q) (Option.some Jvm.ClassFile.FieldType.int))  (hk29 : ∀ (x1 : Int32) (I : MI) (J : MJ), k29 x1 I J → Wp Γ 3 29 [(1, .int x1)] [] I J) : ∀ (n : Nat) (x1 : Int32) (x2 : Int32) (I : MI) (J : MJ), f_Known_unlikeAnswers_L4 k29 n x1 x2 I J → Wp Γ 3 4 [(0, .ref (ad Γ 52)), (1, .int x1), (2, .int x2)] [] I J := by
  intro n
  induction n with
  | zero => intro x1 x2 I J h; exact absurd h (by simp [f_Known_unlikeAnswers_L4])
  | succ n ih =>
  intro x1 x2 I J h
  unfold f_Known_unlikeAnswers_L4 at h
  refine wp_iload_n X dX2_unlikeAnswers_4 2 rfl ?_
  refine wp_aload_n X dX2_unlikeAnswers_5 0 rfl ?_
  refine gf_X2_34 X sh_52 dX2_unlikeAnswers_6 ?_
  refine wp_icmp_ge (tgt := 29) X dX2_unlikeAnswers_9 (by decide) (fun hc => ?_) (fun hc => ?_)
  · have h := ite_t h hc
    refine wp_sub X [1] rfl ?_
    exact hk29 _ _ _ h
  · have h := ite_f h hc
    refine wp_iload_n X dX2_unlikeAnswers_12 1 rfl ?_
    refine wp_iconst X dX2_unlikeAnswers_13 ic_1 ?_
    refine wp_aload_n X dX2_unlikeAnswers_14 0 rfl ?_
    refine gf_X2_15 (o' := 54) X sh_52 rfl dX2_unlikeAnswers_15 ?_
    refine wp_iload_n X dX2_unlikeAnswers_18 2 rfl ?_
    obtain ⟨hb19, h⟩ := h
    refine wp_iald X sh_54 hb19 dX2_unlikeAnswers_19 ?_
    refine wp_ishl X dX2_unlikeAnswers_20 ?_
    refine wp_ior X dX2_unlikeAnswers_21 ?_
    refine wp_topi (fun t22 et22 => ?_)
    have h := h t22 et22
    refine wp_istore_n (L' := [(1, .int t22), (0, .ref (ad Γ 52)), (2, .int x2)]) X dX2_unlikeAnswers_22 rfl (by decide) rfl ?_
    obtain ⟨t23, et23⟩ : ∃ y : Int32, y = x2 + 1 := ⟨_, rfl⟩
    have h := h t23 et23
    refine wp_iinc (L' := [(2, .int t23), (1, .int t22), (0, .ref (ad Γ 52))]) X dX2_unlikeAnswers_23 2 rfl (ii_1 et23) (by decide) rfl ?_
    refine wp_goto (tgt := 4) X dX2_unlikeAnswers_26 (by decide) ?_
    refine wp_sub X [2, 1, 0] rfl ?_
    exact ih _ _ _ _ h

set_option maxRecDepth 100000 in
set_option maxHeartbeats 4000000 in
theorem w_Known_unlikeAnswers_b0 {Γ : Ctx} {Q : Int32 → MI → MJ → Prop}   (X : Cx Γ cX2_unlikeAnswers 3 RX2 1) (Y : Rt Γ (Pi Q) (Option.some Jvm.ClassFile.FieldType.int))   {I : MI} {J : MJ} (h : f_Known_unlikeAnswers  I J Q) : Wp Γ 3 0 [(0, .ref (ad Γ 52))] [] I J := by
  unfold f_Known_unlikeAnswers at h
  refine wp_iconst X dX2_unlikeAnswers_0 ic_0 ?_
  refine wp_istore_n (L' := [(1, .int 0), (0, .ref (ad Γ 52))]) X dX2_unlikeAnswers_1 rfl (by decide) rfl ?_
  refine wp_iconst X dX2_unlikeAnswers_2 ic_0 ?_
  refine wp_istore_n (L' := [(2, .int 0), (1, .int 0), (0, .ref (ad Γ 52))]) X dX2_unlikeAnswers_3 rfl (by decide) rfl ?_
  obtain ⟨n, h⟩ := h
  refine wp_sub X [2, 1, 0] rfl ?_
  refine w_Known_unlikeAnswers_L4 X Y  ?_ n _ _ _ _ h
  · intro z29_x1 I J h
    refine wp_iload_n X dX2_unlikeAnswers_29 0 rfl ?_
    refine cs_Integer_bitCount X dX2_unlikeAnswers_30 ml_X2_80  h (Nat.le_of_ble_eq_true rfl) (by decide) (fun r30 I30 J30 h => ?_)
    exact wp_iret X Y dX2_unlikeAnswers_33 ⟨_, rfl, h⟩

theorem c_Known_unlikeAnswers {l : Launch} {g : GE} (hg : Inj g) {I : MI} {J : MJ} {Q : Int32 → MI → MJ → Prop}   (h : f_Known_unlikeAnswers  I J Q) : Cm l g yX2_unlikeAnswers cX2_unlikeAnswers 3 (Option.some Jvm.ClassFile.FieldType.int) 1 [.ref (g.1 52)] I J (Pi Q) := by
  refine Cm.of (As := fun ad => [.ref (ad 52)]) hg pn_X2 (Nat.le_of_ble_eq_true rfl) ?_
  exact (fun Γ _ _ X Y => w_Known_unlikeAnswers_b0 X Y  h)
theorem cv_Known_unlikeAnswers {Γ : Ctx} {cc : ByteArray} {nL d pc index : Nat} {own : String} {L : List (Nat × Value)} {rest : List Value} {I : MI} {J : MJ} {Q : Int32 → MI → MJ → Prop}  (X : Cx Γ cc nL own d) (hd : decode cc pc = .ok (.invokevirtual index, 3)) (hlink : Cond.methodLink own index yX2_unlikeAnswers ∈ TT)  (h : f_Known_unlikeAnswers  I J Q) (hrest : (rest.map fun v => v.category).sum ≤ 8) (hdd : 1 + 1 ≤ d) (kk : ∀ (r : Int32) (I' : MI) (J' : MJ), Q r I' J' → Wp Γ nL (pc + 3) L (.int r :: rest) I' J') : Wp Γ nL pc L (.ref (ad Γ 52) :: rest) I J :=
  wp_callV (As := []) (rest := rest) (T := TX2) (N := 8) X hd hlink mv_X2_unlikeAnswers sh_52 (by decide) rfl (c_Known_unlikeAnswers X.inj  h) rfl rfl hrest hdd (fun v I' J' hv => by obtain ⟨r, rfl, hq⟩ := hv; exact kk r I' J' hq)
theorem dX2_sortWords_0 : decode cX2_sortWords 0 = .ok (.iconst 0, 1) := by decide +kernel
theorem dX2_sortWords_1 : decode cX2_sortWords 1 = .ok (.istore_n 1, 1) := by decide +kernel
theorem dX2_sortWords_2 : decode cX2_sortWords 2 = .ok (.iload_n 1, 1) := by decide +kernel
theorem dX2_sortWords_3 : decode cX2_sortWords 3 = .ok (.aload_n 0, 1) := by decide +kernel
theorem dX2_sortWords_4 : decode cX2_sortWords 4 = .ok (.getfield 34, 3) := by decide +kernel
theorem dX2_sortWords_7 : decode cX2_sortWords 7 = .ok (.if_icmp .ge 65, 3) := by decide +kernel
theorem dX2_sortWords_10 : decode cX2_sortWords 10 = .ok (.iload_n 1, 1) := by decide +kernel
theorem dX2_sortWords_11 : decode cX2_sortWords 11 = .ok (.istore_n 2, 1) := by decide +kernel
theorem dX2_sortWords_12 : decode cX2_sortWords 12 = .ok (.iload_n 2, 1) := by decide +kernel
theorem dX2_sortWords_13 : decode cX2_sortWords 13 = .ok (.ifCond .le 46, 3) := by decide +kernel
theorem dX2_sortWords_16 : decode cX2_sortWords 16 = .ok (.aload_n 0, 1) := by decide +kernel
theorem dX2_sortWords_17 : decode cX2_sortWords 17 = .ok (.getfield 9, 3) := by decide +kernel
theorem dX2_sortWords_20 : decode cX2_sortWords 20 = .ok (.aload_n 0, 1) := by decide +kernel
theorem dX2_sortWords_21 : decode cX2_sortWords 21 = .ok (.getfield 19, 3) := by decide +kernel
theorem dX2_sortWords_24 : decode cX2_sortWords 24 = .ok (.iload_n 2, 1) := by decide +kernel
theorem dX2_sortWords_25 : decode cX2_sortWords 25 = .ok (.iconst 1, 1) := by decide +kernel
theorem dX2_sortWords_26 : decode cX2_sortWords 26 = .ok (.isub, 1) := by decide +kernel
theorem dX2_sortWords_27 : decode cX2_sortWords 27 = .ok (.iaload, 1) := by decide +kernel
theorem dX2_sortWords_28 : decode cX2_sortWords 28 = .ok (.laload, 1) := by decide +kernel
theorem dX2_sortWords_29 : decode cX2_sortWords 29 = .ok (.aload_n 0, 1) := by decide +kernel
theorem dX2_sortWords_30 : decode cX2_sortWords 30 = .ok (.getfield 9, 3) := by decide +kernel
theorem dX2_sortWords_33 : decode cX2_sortWords 33 = .ok (.iload_n 1, 1) := by decide +kernel
theorem dX2_sortWords_34 : decode cX2_sortWords 34 = .ok (.laload, 1) := by decide +kernel
theorem dX2_sortWords_35 : decode cX2_sortWords 35 = .ok (.lcmp, 1) := by decide +kernel
theorem dX2_sortWords_36 : decode cX2_sortWords 36 = .ok (.ifCond .le 23, 3) := by decide +kernel
theorem dX2_sortWords_39 : decode cX2_sortWords 39 = .ok (.aload_n 0, 1) := by decide +kernel
theorem dX2_sortWords_40 : decode cX2_sortWords 40 = .ok (.getfield 19, 3) := by decide +kernel
theorem dX2_sortWords_43 : decode cX2_sortWords 43 = .ok (.iload_n 2, 1) := by decide +kernel
theorem dX2_sortWords_44 : decode cX2_sortWords 44 = .ok (.aload_n 0, 1) := by decide +kernel
theorem dX2_sortWords_45 : decode cX2_sortWords 45 = .ok (.getfield 19, 3) := by decide +kernel
theorem dX2_sortWords_48 : decode cX2_sortWords 48 = .ok (.iload_n 2, 1) := by decide +kernel
theorem dX2_sortWords_49 : decode cX2_sortWords 49 = .ok (.iconst 1, 1) := by decide +kernel
theorem dX2_sortWords_50 : decode cX2_sortWords 50 = .ok (.isub, 1) := by decide +kernel
theorem dX2_sortWords_51 : decode cX2_sortWords 51 = .ok (.iaload, 1) := by decide +kernel
theorem dX2_sortWords_52 : decode cX2_sortWords 52 = .ok (.iastore, 1) := by decide +kernel
theorem dX2_sortWords_53 : decode cX2_sortWords 53 = .ok (.iinc 2 (-1), 3) := by decide +kernel
theorem dX2_sortWords_56 : decode cX2_sortWords 56 = .ok (.goto (-44), 3) := by decide +kernel
theorem dX2_sortWords_59 : decode cX2_sortWords 59 = .ok (.aload_n 0, 1) := by decide +kernel
theorem dX2_sortWords_60 : decode cX2_sortWords 60 = .ok (.getfield 19, 3) := by decide +kernel
theorem dX2_sortWords_63 : decode cX2_sortWords 63 = .ok (.iload_n 2, 1) := by decide +kernel
theorem dX2_sortWords_64 : decode cX2_sortWords 64 = .ok (.iload_n 1, 1) := by decide +kernel
theorem dX2_sortWords_65 : decode cX2_sortWords 65 = .ok (.iastore, 1) := by decide +kernel
theorem dX2_sortWords_66 : decode cX2_sortWords 66 = .ok (.iinc 1 1, 3) := by decide +kernel
theorem dX2_sortWords_69 : decode cX2_sortWords 69 = .ok (.goto (-67), 3) := by decide +kernel
theorem dX2_sortWords_72 : decode cX2_sortWords 72 = .ok (.return_, 1) := by decide +kernel
def f_Known_sortWords_b59 (x1 : Int32) (x2 : Int32) (kh : Int32 → MI → MJ → Prop) (I : MI) (J : MJ) : Prop :=
  vp_in x2 12 ∧ ∀ I65 : MI, I65 = sI I 55 (upd (I 55) x2.toNatClampNeg x1) → ∀ t66 : Int32, t66 = x1 + 1 → kh t66 I65 J
def f_Known_sortWords_L12 (x1 : Int32) (k59 : Int32 → MI → MJ → Prop) : Nat → Int32 → MI → MJ → Prop
  | 0, _, _, _ => False
  | nf12 + 1, x2, I, J =>
  (if x2 ≤ 0 then k59 x2 I J else vp_in (x2 - 1) 12 ∧ vp_in (I 55 (x2 - 1).toNatClampNeg) 12 ∧ vp_in x1 12 ∧ (if (J 53 (I 55 (x2 - 1).toNatClampNeg).toNatClampNeg) ≤ (J 53 x1.toNatClampNeg) then k59 x2 I J else vp_in (x2 - 1) 12 ∧ vp_in x2 12 ∧ ∀ I52 : MI, I52 = sI I 55 (upd (I 55) x2.toNatClampNeg (I 55 (x2 - 1).toNatClampNeg)) → ∀ t53 : Int32, t53 = x2 + (-1) → f_Known_sortWords_L12 x1 k59 nf12 t53 I52 J))
def f_Known_sortWords_L2 (k72 : MI → MJ → Prop) : Nat → Int32 → MI → MJ → Prop
  | 0, _, _, _ => False
  | nf2 + 1, x1, I, J =>
  (if (I 52 0) ≤ x1 then k72 I J else ∃ n, f_Known_sortWords_L12 x1 (fun (z59_x2 : Int32) (I : MI) (J : MJ) => f_Known_sortWords_b59 x1 z59_x2 (f_Known_sortWords_L2 k72 nf2) I J) n x1 I J)
def f_Known_sortWords (I : MI) (J : MJ) (Q : MI → MJ → Prop) : Prop :=
  ∃ n, f_Known_sortWords_L2 (fun (I : MI) (J : MJ) => Q I J) n 0 I J
set_option maxRecDepth 100000 in
set_option maxHeartbeats 4000000 in
theorem w_Known_sortWords_b59 {Γ : Ctx} {Q : MI → MJ → Prop} {x1 : Int32} {x2 : Int32} {kh : Int32 → MI → MJ → Prop} (X : Cx Γ cX2_sortWords 3 RX2 0) (Y : Rt Γ (Pv Q) (Option.none : Option Jvm.ClassFile.FieldType))  (hkh : ∀ (x1 : Int32) (I : MI) (J : MJ), kh x1 I J → Wp Γ 3 2 [(0, .ref (ad Γ 52)), (1, .int x1)] [] I J) {I : MI} {J : MJ} (h : f_Known_sortWords_b59 x1 x2 kh I J) : Wp Γ 3 59 [(0, .ref (ad Γ 52)), (1, .int x1), (2, .int x2)] [] I J := by
  unfold f_Known_sortWords_b59 at h
  refine wp_aload_n X dX2_sortWords_59 0 rfl ?_
  refine gf_X2_19 (o' := 55) X sh_52 rfl dX2_sortWords_60 ?_
  refine wp_iload_n X dX2_sortWords_63 2 rfl ?_
  refine wp_iload_n X dX2_sortWords_64 1 rfl ?_
  obtain ⟨hb65, h⟩ := h
  refine wp_iast X sh_55 hb65 dX2_sortWords_65 ?_
  refine wp_memI (fun I65 eI65 => ?_)
  have h := h I65 eI65
  obtain ⟨t66, et66⟩ : ∃ y : Int32, y = x1 + 1 := ⟨_, rfl⟩
  have h := h t66 et66
  refine wp_iinc (L' := [(1, .int t66), (0, .ref (ad Γ 52)), (2, .int x2)]) X dX2_sortWords_66 1 rfl (ii_1 et66) (by decide) rfl ?_
  refine wp_goto (tgt := 2) X dX2_sortWords_69 (by decide) ?_
  refine wp_sub X [1, 0] rfl ?_
  exact hkh _ _ _ h

set_option maxRecDepth 100000 in
set_option maxHeartbeats 4000000 in
theorem w_Known_sortWords_L12 {Γ : Ctx} {Q : MI → MJ → Prop} {x1 : Int32} {k59 : Int32 → MI → MJ → Prop} (X : Cx Γ cX2_sortWords 3 RX2 0) (Y : Rt Γ (Pv Q) (Option.none : Option Jvm.ClassFile.FieldType))  (hk59 : ∀ (x2 : Int32) (I : MI) (J : MJ), k59 x2 I J → Wp Γ 3 59 [(0, .ref (ad Γ 52)), (1, .int x1), (2, .int x2)] [] I J) : ∀ (n : Nat) (x2 : Int32) (I : MI) (J : MJ), f_Known_sortWords_L12 x1 k59 n x2 I J → Wp Γ 3 12 [(0, .ref (ad Γ 52)), (1, .int x1), (2, .int x2)] [] I J := by
  intro n
  induction n with
  | zero => intro x2 I J h; exact absurd h (by simp [f_Known_sortWords_L12])
  | succ n ih =>
  intro x2 I J h
  unfold f_Known_sortWords_L12 at h
  refine wp_iload_n X dX2_sortWords_12 2 rfl ?_
  refine wp_if_le (tgt := 59) X dX2_sortWords_13 (by decide) (fun hc => ?_) (fun hc => ?_)
  · have h := ite_t h hc
    exact hk59 _ _ _ h
  · have h := ite_f h hc
    refine wp_aload_n X dX2_sortWords_16 0 rfl ?_
    refine gf_X2_9 (o' := 53) X sh_52 rfl dX2_sortWords_17 ?_
    refine wp_aload_n X dX2_sortWords_20 0 rfl ?_
    refine gf_X2_19 (o' := 55) X sh_52 rfl dX2_sortWords_21 ?_
    refine wp_iload_n X dX2_sortWords_24 2 rfl ?_
    refine wp_iconst X dX2_sortWords_25 ic_1 ?_
    refine wp_isub X dX2_sortWords_26 ?_
    obtain ⟨hb27, h⟩ := h
    refine wp_iald X sh_55 hb27 dX2_sortWords_27 ?_
    obtain ⟨hb28, h⟩ := h
    refine wp_lald X sh_53 hb28 dX2_sortWords_28 ?_
    refine wp_aload_n X dX2_sortWords_29 0 rfl ?_
    refine gf_X2_9 (o' := 53) X sh_52 rfl dX2_sortWords_30 ?_
    refine wp_iload_n X dX2_sortWords_33 1 rfl ?_
    obtain ⟨hb34, h⟩ := h
    refine wp_lald X sh_53 hb34 dX2_sortWords_34 ?_
    refine wp_lcmp_le (tgt := 59) X dX2_sortWords_35 dX2_sortWords_36 (by decide) (fun hc => ?_) (fun hc => ?_)
    · have h := ite_t h hc
      exact hk59 _ _ _ h
    · have h := ite_f h hc
      refine wp_aload_n X dX2_sortWords_39 0 rfl ?_
      refine gf_X2_19 (o' := 55) X sh_52 rfl dX2_sortWords_40 ?_
      refine wp_iload_n X dX2_sortWords_43 2 rfl ?_
      refine wp_aload_n X dX2_sortWords_44 0 rfl ?_
      refine gf_X2_19 (o' := 55) X sh_52 rfl dX2_sortWords_45 ?_
      refine wp_iload_n X dX2_sortWords_48 2 rfl ?_
      refine wp_iconst X dX2_sortWords_49 ic_1 ?_
      refine wp_isub X dX2_sortWords_50 ?_
      obtain ⟨hb51, h⟩ := h
      refine wp_iald X sh_55 hb51 dX2_sortWords_51 ?_
      obtain ⟨hb52, h⟩ := h
      refine wp_iast X sh_55 hb52 dX2_sortWords_52 ?_
      refine wp_memI (fun I52 eI52 => ?_)
      have h := h I52 eI52
      obtain ⟨t53, et53⟩ : ∃ y : Int32, y = x2 + (-1) := ⟨_, rfl⟩
      have h := h t53 et53
      refine wp_iinc (L' := [(2, .int t53), (0, .ref (ad Γ 52)), (1, .int x1)]) X dX2_sortWords_53 2 rfl (ii_m1 et53) (by decide) rfl ?_
      refine wp_goto (tgt := 12) X dX2_sortWords_56 (by decide) ?_
      refine wp_sub X [1, 2, 0] rfl ?_
      exact ih _ _ _ h

set_option maxRecDepth 100000 in
set_option maxHeartbeats 4000000 in
theorem w_Known_sortWords_L2 {Γ : Ctx} {Q : MI → MJ → Prop}  {k72 : MI → MJ → Prop} (X : Cx Γ cX2_sortWords 3 RX2 0) (Y : Rt Γ (Pv Q) (Option.none : Option Jvm.ClassFile.FieldType))  (hk72 : ∀ (I : MI) (J : MJ), k72 I J → Wp Γ 3 72 [] [] I J) : ∀ (n : Nat) (x1 : Int32) (I : MI) (J : MJ), f_Known_sortWords_L2 k72 n x1 I J → Wp Γ 3 2 [(0, .ref (ad Γ 52)), (1, .int x1)] [] I J := by
  intro n
  induction n with
  | zero => intro x1 I J h; exact absurd h (by simp [f_Known_sortWords_L2])
  | succ n ih =>
  intro x1 I J h
  unfold f_Known_sortWords_L2 at h
  refine wp_iload_n X dX2_sortWords_2 1 rfl ?_
  refine wp_aload_n X dX2_sortWords_3 0 rfl ?_
  refine gf_X2_34 X sh_52 dX2_sortWords_4 ?_
  refine wp_icmp_ge (tgt := 72) X dX2_sortWords_7 (by decide) (fun hc => ?_) (fun hc => ?_)
  · have h := ite_t h hc
    refine wp_sub X [] rfl ?_
    exact hk72 _ _ h
  · have h := ite_f h hc
    refine wp_iload_n X dX2_sortWords_10 1 rfl ?_
    refine wp_istore_n (L' := [(2, .int x1), (0, .ref (ad Γ 52)), (1, .int x1)]) X dX2_sortWords_11 rfl (by decide) rfl ?_
    obtain ⟨n, h⟩ := h
    refine wp_sub X [1, 2, 0] rfl ?_
    refine w_Known_sortWords_L12 X Y  ?_ n _ _ _ h
    · intro z59_x2 I J h
      exact w_Known_sortWords_b59 X Y ih h

set_option maxRecDepth 100000 in
set_option maxHeartbeats 4000000 in
theorem w_Known_sortWords_b0 {Γ : Ctx} {Q : MI → MJ → Prop}   (X : Cx Γ cX2_sortWords 3 RX2 0) (Y : Rt Γ (Pv Q) (Option.none : Option Jvm.ClassFile.FieldType))   {I : MI} {J : MJ} (h : f_Known_sortWords  I J Q) : Wp Γ 3 0 [(0, .ref (ad Γ 52))] [] I J := by
  unfold f_Known_sortWords at h
  refine wp_iconst X dX2_sortWords_0 ic_0 ?_
  refine wp_istore_n (L' := [(1, .int 0), (0, .ref (ad Γ 52))]) X dX2_sortWords_1 rfl (by decide) rfl ?_
  obtain ⟨n, h⟩ := h
  refine wp_sub X [1, 0] rfl ?_
  refine w_Known_sortWords_L2 X Y  ?_ n _ _ _ h
  · intro I J h
    exact wp_vret X Y dX2_sortWords_72 ⟨rfl, h⟩

theorem c_Known_sortWords {l : Launch} {g : GE} (hg : Inj g) {I : MI} {J : MJ} {Q : MI → MJ → Prop}   (h : f_Known_sortWords  I J Q) : Cm l g yX2_sortWords cX2_sortWords 3 (Option.none : Option Jvm.ClassFile.FieldType) 0 [.ref (g.1 52)] I J (Pv Q) := by
  refine Cm.of (As := fun ad => [.ref (ad 52)]) hg pn_X2 (Nat.le_of_ble_eq_true rfl) ?_
  exact (fun Γ _ _ X Y => w_Known_sortWords_b0 X Y  h)
theorem cv_Known_sortWords {Γ : Ctx} {cc : ByteArray} {nL d pc index : Nat} {own : String} {L : List (Nat × Value)} {rest : List Value} {I : MI} {J : MJ} {Q : MI → MJ → Prop}  (X : Cx Γ cc nL own d) (hd : decode cc pc = .ok (.invokevirtual index, 3)) (hlink : Cond.methodLink own index yX2_sortWords ∈ TT)  (h : f_Known_sortWords  I J Q) (hrest : (rest.map fun v => v.category).sum ≤ 8) (hdd : 0 + 1 ≤ d) (kk : ∀ (I' : MI) (J' : MJ), Q I' J' → Wp Γ nL (pc + 3) L rest I' J') : Wp Γ nL pc L (.ref (ad Γ 52) :: rest) I J :=
  wp_callV (As := []) (rest := rest) (T := TX2) (N := 8) X hd hlink mv_X2_sortWords sh_52 (by decide) rfl (c_Known_sortWords X.inj  h) rfl rfl hrest hdd (fun v I' J' hv => by obtain ⟨rfl, hq⟩ := hv; exact kk I' J' hq)
theorem dX2_tablesAreFew_0 : decode cX2_tablesAreFew 0 = .ok (.lconst 1, 1) := by decide +kernel
theorem dX2_tablesAreFew_1 : decode cX2_tablesAreFew 1 = .ok (.lstore_n 2, 1) := by decide +kernel
theorem dX2_tablesAreFew_2 : decode cX2_tablesAreFew 2 = .ok (.iconst 0, 1) := by decide +kernel
theorem dX2_tablesAreFew_3 : decode cX2_tablesAreFew 3 = .ok (.istore 4, 2) := by decide +kernel
theorem dX2_tablesAreFew_5 : decode cX2_tablesAreFew 5 = .ok (.iload 4, 2) := by decide +kernel
theorem dX2_tablesAreFew_7 : decode cX2_tablesAreFew 7 = .ok (.iload_n 0, 1) := by decide +kernel
theorem dX2_tablesAreFew_8 : decode cX2_tablesAreFew 8 = .ok (.iload_n 1, 1) := by decide +kernel
theorem dX2_tablesAreFew_9 : decode cX2_tablesAreFew 9 = .ok (.imul, 1) := by decide +kernel
theorem dX2_tablesAreFew_10 : decode cX2_tablesAreFew 10 = .ok (.if_icmp .ge 22, 3) := by decide +kernel
theorem dX2_tablesAreFew_13 : decode cX2_tablesAreFew 13 = .ok (.lload_n 2, 1) := by decide +kernel
theorem dX2_tablesAreFew_14 : decode cX2_tablesAreFew 14 = .ok (.ldc2_w 86, 3) := by decide +kernel
theorem dX2_tablesAreFew_17 : decode cX2_tablesAreFew 17 = .ok (.lcmp, 1) := by decide +kernel
theorem dX2_tablesAreFew_18 : decode cX2_tablesAreFew 18 = .ok (.ifCond .gt 14, 3) := by decide +kernel
theorem dX2_tablesAreFew_21 : decode cX2_tablesAreFew 21 = .ok (.lload_n 2, 1) := by decide +kernel
theorem dX2_tablesAreFew_22 : decode cX2_tablesAreFew 22 = .ok (.iload_n 0, 1) := by decide +kernel
theorem dX2_tablesAreFew_23 : decode cX2_tablesAreFew 23 = .ok (.i2l, 1) := by decide +kernel
theorem dX2_tablesAreFew_24 : decode cX2_tablesAreFew 24 = .ok (.lmul, 1) := by decide +kernel
theorem dX2_tablesAreFew_25 : decode cX2_tablesAreFew 25 = .ok (.lstore_n 2, 1) := by decide +kernel
theorem dX2_tablesAreFew_26 : decode cX2_tablesAreFew 26 = .ok (.iinc 4 1, 3) := by decide +kernel
theorem dX2_tablesAreFew_29 : decode cX2_tablesAreFew 29 = .ok (.goto (-24), 3) := by decide +kernel
theorem dX2_tablesAreFew_32 : decode cX2_tablesAreFew 32 = .ok (.lload_n 2, 1) := by decide +kernel
theorem dX2_tablesAreFew_33 : decode cX2_tablesAreFew 33 = .ok (.ldc2_w 86, 3) := by decide +kernel
theorem dX2_tablesAreFew_36 : decode cX2_tablesAreFew 36 = .ok (.lcmp, 1) := by decide +kernel
theorem dX2_tablesAreFew_37 : decode cX2_tablesAreFew 37 = .ok (.ifCond .gt 7, 3) := by decide +kernel
theorem dX2_tablesAreFew_40 : decode cX2_tablesAreFew 40 = .ok (.iconst 1, 1) := by decide +kernel
theorem dX2_tablesAreFew_41 : decode cX2_tablesAreFew 41 = .ok (.goto 4, 3) := by decide +kernel
theorem dX2_tablesAreFew_44 : decode cX2_tablesAreFew 44 = .ok (.iconst 0, 1) := by decide +kernel
theorem dX2_tablesAreFew_45 : decode cX2_tablesAreFew 45 = .ok (.ireturn, 1) := by decide +kernel
def f_Known_tablesAreFew_b32 (x2 : Int64) (Q : Int32 → MI → MJ → Prop) (I : MI) (J : MJ) : Prop :=
  (if 20000 < x2 then Q 0 I J else Q 1 I J)
def f_Known_tablesAreFew_L5 (x0 : Int32) (x1 : Int32) (k32 : Int64 → MI → MJ → Prop) : Nat → Int64 → Int32 → MI → MJ → Prop
  | 0, _, _, _, _ => False
  | nf5 + 1, x2, x4, I, J =>
  (if (x0 * x1) ≤ x4 then k32 x2 I J else (if 20000 < x2 then k32 x2 I J else ∀ t25 : Int64, t25 = x2 * x0.toInt64 → ∀ t26 : Int32, t26 = x4 + 1 → f_Known_tablesAreFew_L5 x0 x1 k32 nf5 t25 t26 I J))
def f_Known_tablesAreFew (x0 : Int32) (x1 : Int32) (I : MI) (J : MJ) (Q : Int32 → MI → MJ → Prop) : Prop :=
  ∃ n, f_Known_tablesAreFew_L5 x0 x1 (fun (z32_x2 : Int64) (I : MI) (J : MJ) => f_Known_tablesAreFew_b32 z32_x2 Q I J) n 1 0 I J
set_option maxRecDepth 100000 in
set_option maxHeartbeats 4000000 in
theorem w_Known_tablesAreFew_b32 {Γ : Ctx} {Q : Int32 → MI → MJ → Prop} {x2 : Int64}  (X : Cx Γ cX2_tablesAreFew 5 RX2 0) (Y : Rt Γ (Pi Q) (Option.some Jvm.ClassFile.FieldType.boolean))   {I : MI} {J : MJ} (h : f_Known_tablesAreFew_b32 x2 Q I J) : Wp Γ 5 32 [(2, .long x2)] [] I J := by
  unfold f_Known_tablesAreFew_b32 at h
  refine wp_lload_n X dX2_tablesAreFew_32 0 rfl ?_
  refine wp_ldc2 X kl_X2_86 dX2_tablesAreFew_33 ?_
  refine wp_lcmp_gt (tgt := 44) X dX2_tablesAreFew_36 dX2_tablesAreFew_37 (by decide) (fun hc => ?_) (fun hc => ?_)
  · have h := ite_t h hc
    refine wp_iconst X dX2_tablesAreFew_44 ic_0 ?_
    exact wp_zret X Y dX2_tablesAreFew_45 (by decide) ⟨_, rfl, h⟩
  · have h := ite_f h hc
    refine wp_iconst X dX2_tablesAreFew_40 ic_1 ?_
    refine wp_goto (tgt := 45) X dX2_tablesAreFew_41 (by decide) ?_
    exact wp_zret X Y dX2_tablesAreFew_45 (by decide) ⟨_, rfl, h⟩

set_option maxRecDepth 100000 in
set_option maxHeartbeats 4000000 in
theorem w_Known_tablesAreFew_L5 {Γ : Ctx} {Q : Int32 → MI → MJ → Prop} {x0 : Int32} {x1 : Int32} {k32 : Int64 → MI → MJ → Prop} (X : Cx Γ cX2_tablesAreFew 5 RX2 0) (Y : Rt Γ (Pi Q) (Option.some Jvm.ClassFile.FieldType.boolean))  (hk32 : ∀ (x2 : Int64) (I : MI) (J : MJ), k32 x2 I J → Wp Γ 5 32 [(2, .long x2)] [] I J) : ∀ (n : Nat) (x2 : Int64) (x4 : Int32) (I : MI) (J : MJ), f_Known_tablesAreFew_L5 x0 x1 k32 n x2 x4 I J → Wp Γ 5 5 [(0, .int x0), (1, .int x1), (2, .long x2), (4, .int x4)] [] I J := by
  intro n
  induction n with
  | zero => intro x2 x4 I J h; exact absurd h (by simp [f_Known_tablesAreFew_L5])
  | succ n ih =>
  intro x2 x4 I J h
  unfold f_Known_tablesAreFew_L5 at h
  refine wp_iload X dX2_tablesAreFew_5 3 rfl ?_
  refine wp_iload_n X dX2_tablesAreFew_7 0 rfl ?_
  refine wp_iload_n X dX2_tablesAreFew_8 1 rfl ?_
  refine wp_imul X dX2_tablesAreFew_9 ?_
  refine wp_icmp_ge (tgt := 32) X dX2_tablesAreFew_10 (by decide) (fun hc => ?_) (fun hc => ?_)
  · have h := ite_t h hc
    refine wp_sub X [2] rfl ?_
    exact hk32 _ _ _ h
  · have h := ite_f h hc
    refine wp_lload_n X dX2_tablesAreFew_13 2 rfl ?_
    refine wp_ldc2 X kl_X2_86 dX2_tablesAreFew_14 ?_
    refine wp_lcmp_gt (tgt := 32) X dX2_tablesAreFew_17 dX2_tablesAreFew_18 (by decide) (fun hc => ?_) (fun hc => ?_)
    · have h := ite_t h hc
      refine wp_sub X [2] rfl ?_
      exact hk32 _ _ _ h
    · have h := ite_f h hc
      refine wp_lload_n X dX2_tablesAreFew_21 2 rfl ?_
      refine wp_iload_n X dX2_tablesAreFew_22 0 rfl ?_
      refine wp_i2l X dX2_tablesAreFew_23 ?_
      refine wp_lmul X dX2_tablesAreFew_24 ?_
      refine wp_topl (fun t25 et25 => ?_)
      have h := h t25 et25
      refine wp_lstore_n (L' := [(2, .long t25), (0, .int x0), (1, .int x1), (4, .int x4)]) X dX2_tablesAreFew_25 rfl (by decide) rfl ?_
      obtain ⟨t26, et26⟩ : ∃ y : Int32, y = x4 + 1 := ⟨_, rfl⟩
      have h := h t26 et26
      refine wp_iinc (L' := [(4, .int t26), (2, .long t25), (0, .int x0), (1, .int x1)]) X dX2_tablesAreFew_26 3 rfl (ii_1 et26) (by decide) rfl ?_
      refine wp_goto (tgt := 5) X dX2_tablesAreFew_29 (by decide) ?_
      refine wp_sub X [2, 3, 1, 0] rfl ?_
      exact ih _ _ _ _ h

set_option maxRecDepth 100000 in
set_option maxHeartbeats 4000000 in
theorem w_Known_tablesAreFew_b0 {Γ : Ctx} {Q : Int32 → MI → MJ → Prop} {x0 : Int32} {x1 : Int32}  (X : Cx Γ cX2_tablesAreFew 5 RX2 0) (Y : Rt Γ (Pi Q) (Option.some Jvm.ClassFile.FieldType.boolean))   {I : MI} {J : MJ} (h : f_Known_tablesAreFew x0 x1 I J Q) : Wp Γ 5 0 [(0, .int x0), (1, .int x1)] [] I J := by
  unfold f_Known_tablesAreFew at h
  refine wp_lconst X dX2_tablesAreFew_0 lc_1 ?_
  refine wp_lstore_n (L' := [(2, .long 1), (0, .int x0), (1, .int x1)]) X dX2_tablesAreFew_1 rfl (by decide) rfl ?_
  refine wp_iconst X dX2_tablesAreFew_2 ic_0 ?_
  refine wp_istore (L' := [(4, .int 0), (2, .long 1), (0, .int x0), (1, .int x1)]) X dX2_tablesAreFew_3 (by decide) rfl ?_
  obtain ⟨n, h⟩ := h
  refine wp_sub X [2, 3, 1, 0] rfl ?_
  refine w_Known_tablesAreFew_L5 X Y  ?_ n _ _ _ _ h
  · intro z32_x2 I J h
    exact w_Known_tablesAreFew_b32 X Y  h

theorem c_Known_tablesAreFew {l : Launch} {g : GE} (hg : Inj g) {I : MI} {J : MJ} {Q : Int32 → MI → MJ → Prop} {x0 : Int32} {x1 : Int32}  (h : f_Known_tablesAreFew x0 x1 I J Q) : Cm l g yX2_tablesAreFew cX2_tablesAreFew 5 (Option.some Jvm.ClassFile.FieldType.boolean) 0 [.int x0, .int x1] I J (Pi Q) := by
  refine Cm.of (As := fun ad => [.int x0, .int x1]) hg pn_X2 (Nat.le_of_ble_eq_true rfl) ?_
  exact (fun Γ _ _ X Y => w_Known_tablesAreFew_b0 X Y  h)
theorem cs_Known_tablesAreFew {Γ : Ctx} {cc : ByteArray} {nL d pc index : Nat} {own : String} {L : List (Nat × Value)} {rest : List Value} {I : MI} {J : MJ} {Q : Int32 → MI → MJ → Prop} {x0 : Int32} {x1 : Int32} (X : Cx Γ cc nL own d) (hd : decode cc pc = .ok (.invokestatic index, 3)) (hlink : Cond.methodLink own index yX2_tablesAreFew ∈ TT)  (h : f_Known_tablesAreFew x0 x1 I J Q) (hrest : (rest.map fun v => v.category).sum ≤ 8) (hdd : 0 + 1 ≤ d) (kk : ∀ (r : Int32) (I' : MI) (J' : MJ), Q r I' J' → Wp Γ nL (pc + 3) L (.int r :: rest) I' J') : Wp Γ nL pc L (.int x1 :: .int x0 :: rest) I J :=
  wp_callS (As := [.int x0, .int x1]) (rest := rest) X hd hlink mv_X2_tablesAreFew (c_Known_tablesAreFew X.inj  h) rfl rfl hrest hdd (fun v I' J' hv => by obtain ⟨r, rfl, hq⟩ := hv; exact kk r I' J' hq)
theorem dX2_runTable_0 : decode cX2_runTable 0 = .ok (.iconst 0, 1) := by decide +kernel
theorem dX2_runTable_1 : decode cX2_runTable 1 = .ok (.istore_n 3, 1) := by decide +kernel
theorem dX2_runTable_2 : decode cX2_runTable 2 = .ok (.iconst (-1), 1) := by decide +kernel
theorem dX2_runTable_3 : decode cX2_runTable 3 = .ok (.istore 4, 2) := by decide +kernel
theorem dX2_runTable_5 : decode cX2_runTable 5 = .ok (.aload_n 0, 1) := by decide +kernel
theorem dX2_runTable_6 : decode cX2_runTable 6 = .ok (.getfield 22, 3) := by decide +kernel
theorem dX2_runTable_9 : decode cX2_runTable 9 = .ok (.iload_n 1, 1) := by decide +kernel
theorem dX2_runTable_10 : decode cX2_runTable 10 = .ok (.iaload, 1) := by decide +kernel
theorem dX2_runTable_11 : decode cX2_runTable 11 = .ok (.iconst 1, 1) := by decide +kernel
theorem dX2_runTable_12 : decode cX2_runTable 12 = .ok (.isub, 1) := by decide +kernel
theorem dX2_runTable_13 : decode cX2_runTable 13 = .ok (.istore 5, 2) := by decide +kernel
theorem dX2_runTable_15 : decode cX2_runTable 15 = .ok (.iload 5, 2) := by decide +kernel
theorem dX2_runTable_17 : decode cX2_runTable 17 = .ok (.ifCond .lt 43, 3) := by decide +kernel
theorem dX2_runTable_20 : decode cX2_runTable 20 = .ok (.iload_n 3, 1) := by decide +kernel
theorem dX2_runTable_21 : decode cX2_runTable 21 = .ok (.iload_n 2, 1) := by decide +kernel
theorem dX2_runTable_22 : decode cX2_runTable 22 = .ok (.imul, 1) := by decide +kernel
theorem dX2_runTable_23 : decode cX2_runTable 23 = .ok (.aload_n 0, 1) := by decide +kernel
theorem dX2_runTable_24 : decode cX2_runTable 24 = .ok (.getfield 9, 3) := by decide +kernel
theorem dX2_runTable_27 : decode cX2_runTable 27 = .ok (.iload_n 1, 1) := by decide +kernel
theorem dX2_runTable_28 : decode cX2_runTable 28 = .ok (.laload, 1) := by decide +kernel
theorem dX2_runTable_29 : decode cX2_runTable 29 = .ok (.iload 5, 2) := by decide +kernel
theorem dX2_runTable_31 : decode cX2_runTable 31 = .ok (.invokestatic 70, 3) := by decide +kernel
theorem dX2_runTable_34 : decode cX2_runTable 34 = .ok (.iadd, 1) := by decide +kernel
theorem dX2_runTable_35 : decode cX2_runTable 35 = .ok (.istore 6, 2) := by decide +kernel
theorem dX2_runTable_37 : decode cX2_runTable 37 = .ok (.iload 4, 2) := by decide +kernel
theorem dX2_runTable_39 : decode cX2_runTable 39 = .ok (.iload 6, 2) := by decide +kernel
theorem dX2_runTable_41 : decode cX2_runTable 41 = .ok (.invokestatic 74, 3) := by decide +kernel
theorem dX2_runTable_44 : decode cX2_runTable 44 = .ok (.istore 4, 2) := by decide +kernel
theorem dX2_runTable_46 : decode cX2_runTable 46 = .ok (.aload_n 0, 1) := by decide +kernel
theorem dX2_runTable_47 : decode cX2_runTable 47 = .ok (.getfield 31, 3) := by decide +kernel
theorem dX2_runTable_50 : decode cX2_runTable 50 = .ok (.iload 6, 2) := by decide +kernel
theorem dX2_runTable_52 : decode cX2_runTable 52 = .ok (.iaload, 1) := by decide +kernel
theorem dX2_runTable_53 : decode cX2_runTable 53 = .ok (.istore_n 3, 1) := by decide +kernel
theorem dX2_runTable_54 : decode cX2_runTable 54 = .ok (.iinc 5 (-1), 3) := by decide +kernel
theorem dX2_runTable_57 : decode cX2_runTable 57 = .ok (.goto (-42), 3) := by decide +kernel
theorem dX2_runTable_60 : decode cX2_runTable 60 = .ok (.aload_n 0, 1) := by decide +kernel
theorem dX2_runTable_61 : decode cX2_runTable 61 = .ok (.getfield 25, 3) := by decide +kernel
theorem dX2_runTable_64 : decode cX2_runTable 64 = .ok (.iload_n 1, 1) := by decide +kernel
theorem dX2_runTable_65 : decode cX2_runTable 65 = .ok (.iload_n 3, 1) := by decide +kernel
theorem dX2_runTable_66 : decode cX2_runTable 66 = .ok (.iastore, 1) := by decide +kernel
theorem dX2_runTable_67 : decode cX2_runTable 67 = .ok (.aload_n 0, 1) := by decide +kernel
theorem dX2_runTable_68 : decode cX2_runTable 68 = .ok (.getfield 28, 3) := by decide +kernel
theorem dX2_runTable_71 : decode cX2_runTable 71 = .ok (.iload_n 1, 1) := by decide +kernel
theorem dX2_runTable_72 : decode cX2_runTable 72 = .ok (.iload 4, 2) := by decide +kernel
theorem dX2_runTable_74 : decode cX2_runTable 74 = .ok (.iastore, 1) := by decide +kernel
theorem dX2_runTable_75 : decode cX2_runTable 75 = .ok (.return_, 1) := by decide +kernel
def f_Known_runTable_L15 (x1 : Int32) (x2 : Int32) (k60 : Int32 → Int32 → MI → MJ → Prop) : Nat → Int32 → Int32 → Int32 → MI → MJ → Prop
  | 0, _, _, _, _, _ => False
  | nf15 + 1, x3, x4, x5, I, J =>
  (if x5 < 0 then k60 x3 x4 I J else vp_in x1 12 ∧ f_Words_signAt (J 53 x1.toNatClampNeg) x5 I J (fun r31 I31 J31 => ∀ t35 : Int32, t35 = (x3 * x2) + r31 → ∀ t44 : Int32, t44 = (if x4 < t35 then t35 else x4) → vp_in t35 56 ∧ ∀ t53 : Int32, t53 = I31 59 t35.toNatClampNeg → ∀ t54 : Int32, t54 = x5 + (-1) → f_Known_runTable_L15 x1 x2 k60 nf15 t53 t44 t54 I31 J31))
def f_Known_runTable (x1 : Int32) (x2 : Int32) (I : MI) (J : MJ) (Q : MI → MJ → Prop) : Prop :=
  vp_in x1 12 ∧ ∀ t13 : Int32, t13 = (I 56 x1.toNatClampNeg) - 1 → ∃ n, f_Known_runTable_L15 x1 x2 (fun (z60_x3 : Int32) (z60_x4 : Int32) (I : MI) (J : MJ) => vp_in x1 12 ∧ ∀ I66 : MI, I66 = sI I 57 (upd (I 57) x1.toNatClampNeg z60_x3) → vp_in x1 12 ∧ ∀ I74 : MI, I74 = sI I66 58 (upd (I66 58) x1.toNatClampNeg z60_x4) → Q I74 J) n 0 (-1) t13 I J
set_option maxRecDepth 100000 in
set_option maxHeartbeats 4000000 in
theorem w_Known_runTable_L15 {Γ : Ctx} {Q : MI → MJ → Prop} {x1 : Int32} {x2 : Int32} {k60 : Int32 → Int32 → MI → MJ → Prop} (X : Cx Γ cX2_runTable 7 RX2 1) (Y : Rt Γ (Pv Q) (Option.none : Option Jvm.ClassFile.FieldType))  (hk60 : ∀ (x3 : Int32) (x4 : Int32) (I : MI) (J : MJ), k60 x3 x4 I J → Wp Γ 7 60 [(0, .ref (ad Γ 52)), (1, .int x1), (3, .int x3), (4, .int x4)] [] I J) : ∀ (n : Nat) (x3 : Int32) (x4 : Int32) (x5 : Int32) (I : MI) (J : MJ), f_Known_runTable_L15 x1 x2 k60 n x3 x4 x5 I J → Wp Γ 7 15 [(0, .ref (ad Γ 52)), (1, .int x1), (2, .int x2), (3, .int x3), (4, .int x4), (5, .int x5)] [] I J := by
  intro n
  induction n with
  | zero => intro x3 x4 x5 I J h; exact absurd h (by simp [f_Known_runTable_L15])
  | succ n ih =>
  intro x3 x4 x5 I J h
  unfold f_Known_runTable_L15 at h
  refine wp_iload X dX2_runTable_15 5 rfl ?_
  refine wp_if_lt (tgt := 60) X dX2_runTable_17 (by decide) (fun hc => ?_) (fun hc => ?_)
  · have h := ite_t h hc
    refine wp_sub X [0, 1, 3, 4] rfl ?_
    exact hk60 _ _ _ _ h
  · have h := ite_f h hc
    refine wp_iload_n X dX2_runTable_20 3 rfl ?_
    refine wp_iload_n X dX2_runTable_21 2 rfl ?_
    refine wp_imul X dX2_runTable_22 ?_
    refine wp_aload_n X dX2_runTable_23 0 rfl ?_
    refine gf_X2_9 (o' := 53) X sh_52 rfl dX2_runTable_24 ?_
    refine wp_iload_n X dX2_runTable_27 1 rfl ?_
    obtain ⟨hb28, h⟩ := h
    refine wp_lald X sh_53 hb28 dX2_runTable_28 ?_
    refine wp_iload X dX2_runTable_29 5 rfl ?_
    refine cs_Words_signAt X dX2_runTable_31 ml_X2_70  h (Nat.le_of_ble_eq_true rfl) (by decide) (fun r31 I31 J31 h => ?_)
    refine wp_iadd X dX2_runTable_34 ?_
    refine wp_topi (fun t35 et35 => ?_)
    have h := h t35 et35
    refine wp_istore (L' := [(6, .int t35), (0, .ref (ad Γ 52)), (1, .int x1), (2, .int x2), (3, .int x3), (4, .int x4), (5, .int x5)]) X dX2_runTable_35 (by decide) rfl ?_
    refine wp_iload X dX2_runTable_37 5 rfl ?_
    refine wp_iload X dX2_runTable_39 0 rfl ?_
    refine wp_max X dX2_runTable_41 ml_X2_74 mw_max (by decide) (Nat.le_of_ble_eq_true rfl) ?_
    refine wp_topi (fun t44 et44 => ?_)
    have h := h t44 et44
    refine wp_istore (L' := [(4, .int t44), (6, .int t35), (0, .ref (ad Γ 52)), (1, .int x1), (2, .int x2), (3, .int x3), (5, .int x5)]) X dX2_runTable_44 (by decide) rfl ?_
    refine wp_aload_n X dX2_runTable_46 2 rfl ?_
    refine gf_X2_31 (o' := 59) X sh_52 rfl dX2_runTable_47 ?_
    refine wp_iload X dX2_runTable_50 1 rfl ?_
    obtain ⟨hb52, h⟩ := h
    refine wp_iald X sh_59 hb52 dX2_runTable_52 ?_
    refine wp_topi (fun t53 et53 => ?_)
    have h := h t53 et53
    refine wp_istore_n (L' := [(3, .int t53), (4, .int t44), (6, .int t35), (0, .ref (ad Γ 52)), (1, .int x1), (2, .int x2), (5, .int x5)]) X dX2_runTable_53 rfl (by decide) rfl ?_
    obtain ⟨t54, et54⟩ : ∃ y : Int32, y = x5 + (-1) := ⟨_, rfl⟩
    have h := h t54 et54
    refine wp_iinc (L' := [(5, .int t54), (3, .int t53), (4, .int t44), (6, .int t35), (0, .ref (ad Γ 52)), (1, .int x1), (2, .int x2)]) X dX2_runTable_54 6 rfl (ii_m1 et54) (by decide) rfl ?_
    refine wp_goto (tgt := 15) X dX2_runTable_57 (by decide) ?_
    refine wp_sub X [4, 5, 6, 1, 2, 0] rfl ?_
    exact ih _ _ _ _ _ h

set_option maxRecDepth 100000 in
set_option maxHeartbeats 4000000 in
theorem w_Known_runTable_b0 {Γ : Ctx} {Q : MI → MJ → Prop} {x1 : Int32} {x2 : Int32}  (X : Cx Γ cX2_runTable 7 RX2 1) (Y : Rt Γ (Pv Q) (Option.none : Option Jvm.ClassFile.FieldType))   {I : MI} {J : MJ} (h : f_Known_runTable x1 x2 I J Q) : Wp Γ 7 0 [(0, .ref (ad Γ 52)), (1, .int x1), (2, .int x2)] [] I J := by
  unfold f_Known_runTable at h
  refine wp_iconst X dX2_runTable_0 ic_0 ?_
  refine wp_istore_n (L' := [(3, .int 0), (0, .ref (ad Γ 52)), (1, .int x1), (2, .int x2)]) X dX2_runTable_1 rfl (by decide) rfl ?_
  refine wp_iconst X dX2_runTable_2 ic_m1 ?_
  refine wp_istore (L' := [(4, .int (-1)), (3, .int 0), (0, .ref (ad Γ 52)), (1, .int x1), (2, .int x2)]) X dX2_runTable_3 (by decide) rfl ?_
  refine wp_aload_n X dX2_runTable_5 2 rfl ?_
  refine gf_X2_22 (o' := 56) X sh_52 rfl dX2_runTable_6 ?_
  refine wp_iload_n X dX2_runTable_9 3 rfl ?_
  obtain ⟨hb10, h⟩ := h
  refine wp_iald X sh_56 hb10 dX2_runTable_10 ?_
  refine wp_iconst X dX2_runTable_11 ic_1 ?_
  refine wp_isub X dX2_runTable_12 ?_
  refine wp_topi (fun t13 et13 => ?_)
  have h := h t13 et13
  refine wp_istore (L' := [(5, .int t13), (4, .int (-1)), (3, .int 0), (0, .ref (ad Γ 52)), (1, .int x1), (2, .int x2)]) X dX2_runTable_13 (by decide) rfl ?_
  obtain ⟨n, h⟩ := h
  refine wp_sub X [3, 4, 5, 2, 1, 0] rfl ?_
  refine w_Known_runTable_L15 X Y  ?_ n _ _ _ _ _ h
  · intro z60_x3 z60_x4 I J h
    refine wp_aload_n X dX2_runTable_60 0 rfl ?_
    refine gf_X2_25 (o' := 57) X sh_52 rfl dX2_runTable_61 ?_
    refine wp_iload_n X dX2_runTable_64 1 rfl ?_
    refine wp_iload_n X dX2_runTable_65 2 rfl ?_
    obtain ⟨hb66, h⟩ := h
    refine wp_iast X sh_57 hb66 dX2_runTable_66 ?_
    refine wp_memI (fun I66 eI66 => ?_)
    have h := h I66 eI66
    refine wp_aload_n X dX2_runTable_67 0 rfl ?_
    refine gf_X2_28 (o' := 58) X sh_52 rfl dX2_runTable_68 ?_
    refine wp_iload_n X dX2_runTable_71 1 rfl ?_
    refine wp_iload X dX2_runTable_72 3 rfl ?_
    obtain ⟨hb74, h⟩ := h
    refine wp_iast X sh_58 hb74 dX2_runTable_74 ?_
    refine wp_memI (fun I74 eI74 => ?_)
    have h := h I74 eI74
    exact wp_vret X Y dX2_runTable_75 ⟨rfl, h⟩

theorem c_Known_runTable {l : Launch} {g : GE} (hg : Inj g) {I : MI} {J : MJ} {Q : MI → MJ → Prop} {x1 : Int32} {x2 : Int32}  (h : f_Known_runTable x1 x2 I J Q) : Cm l g yX2_runTable cX2_runTable 7 (Option.none : Option Jvm.ClassFile.FieldType) 1 [.ref (g.1 52), .int x1, .int x2] I J (Pv Q) := by
  refine Cm.of (As := fun ad => [.ref (ad 52), .int x1, .int x2]) hg pn_X2 (Nat.le_of_ble_eq_true rfl) ?_
  exact (fun Γ _ _ X Y => w_Known_runTable_b0 X Y  h)
theorem cv_Known_runTable {Γ : Ctx} {cc : ByteArray} {nL d pc index : Nat} {own : String} {L : List (Nat × Value)} {rest : List Value} {I : MI} {J : MJ} {Q : MI → MJ → Prop} {x1 : Int32} {x2 : Int32} (X : Cx Γ cc nL own d) (hd : decode cc pc = .ok (.invokevirtual index, 3)) (hlink : Cond.methodLink own index yX2_runTable ∈ TT)  (h : f_Known_runTable x1 x2 I J Q) (hrest : (rest.map fun v => v.category).sum ≤ 8) (hdd : 1 + 1 ≤ d) (kk : ∀ (I' : MI) (J' : MJ), Q I' J' → Wp Γ nL (pc + 3) L rest I' J') : Wp Γ nL pc L (.int x2 :: .int x1 :: .ref (ad Γ 52) :: rest) I J :=
  wp_callV (As := [.int x1, .int x2]) (rest := rest) (T := TX2) (N := 8) X hd hlink mv_X2_runTable sh_52 (by decide) rfl (c_Known_runTable X.inj  h) rfl rfl hrest hdd (fun v I' J' hv => by obtain ⟨rfl, hq⟩ := hv; exact kk I' J' hq)
