theorem dX2_doClash_0 : decode cX2_doClash 0 = .ok (.aload_n 0, 1) := by decide +kernel
theorem dX2_doClash_1 : decode cX2_doClash 1 = .ok (.getfield 25, 3) := by decide +kernel
theorem dX2_doClash_4 : decode cX2_doClash 4 = .ok (.iload_n 1, 1) := by decide +kernel
theorem dX2_doClash_5 : decode cX2_doClash 5 = .ok (.iaload, 1) := by decide +kernel
theorem dX2_doClash_6 : decode cX2_doClash 6 = .ok (.aload_n 0, 1) := by decide +kernel
theorem dX2_doClash_7 : decode cX2_doClash 7 = .ok (.getfield 25, 3) := by decide +kernel
theorem dX2_doClash_10 : decode cX2_doClash 10 = .ok (.iload_n 2, 1) := by decide +kernel
theorem dX2_doClash_11 : decode cX2_doClash 11 = .ok (.iaload, 1) := by decide +kernel
theorem dX2_doClash_12 : decode cX2_doClash 12 = .ok (.if_icmp .ne 22, 3) := by decide +kernel
theorem dX2_doClash_15 : decode cX2_doClash 15 = .ok (.aload_n 0, 1) := by decide +kernel
theorem dX2_doClash_16 : decode cX2_doClash 16 = .ok (.getfield 15, 3) := by decide +kernel
theorem dX2_doClash_19 : decode cX2_doClash 19 = .ok (.iload_n 1, 1) := by decide +kernel
theorem dX2_doClash_20 : decode cX2_doClash 20 = .ok (.iaload, 1) := by decide +kernel
theorem dX2_doClash_21 : decode cX2_doClash 21 = .ok (.aload_n 0, 1) := by decide +kernel
theorem dX2_doClash_22 : decode cX2_doClash 22 = .ok (.getfield 15, 3) := by decide +kernel
theorem dX2_doClash_25 : decode cX2_doClash 25 = .ok (.iload_n 2, 1) := by decide +kernel
theorem dX2_doClash_26 : decode cX2_doClash 26 = .ok (.iaload, 1) := by decide +kernel
theorem dX2_doClash_27 : decode cX2_doClash 27 = .ok (.if_icmp .eq 7, 3) := by decide +kernel
theorem dX2_doClash_30 : decode cX2_doClash 30 = .ok (.iconst 1, 1) := by decide +kernel
theorem dX2_doClash_31 : decode cX2_doClash 31 = .ok (.goto 4, 3) := by decide +kernel
theorem dX2_doClash_34 : decode cX2_doClash 34 = .ok (.iconst 0, 1) := by decide +kernel
theorem dX2_doClash_35 : decode cX2_doClash 35 = .ok (.ireturn, 1) := by decide +kernel
def f_Known_doClash (x1 : Int32) (x2 : Int32) (I : MI) (J : MJ) (Q : Int32 → MI → MJ → Prop) : Prop :=
  vp_in x1 12 ∧ vp_in x2 12 ∧ (if (I 57 x1.toNatClampNeg) = (I 57 x2.toNatClampNeg) then vp_in x1 12 ∧ vp_in x2 12 ∧ (if (I 54 x1.toNatClampNeg) = (I 54 x2.toNatClampNeg) then Q 0 I J else Q 1 I J) else Q 0 I J)
set_option maxRecDepth 100000 in
set_option maxHeartbeats 4000000 in
theorem w_Known_doClash_b0 {Γ : Ctx} {Q : Int32 → MI → MJ → Prop} {x1 : Int32} {x2 : Int32}  (X : Cx Γ cX2_doClash 3 RX2 0) (Y : Rt Γ (Pi Q) (Option.some Jvm.ClassFile.FieldType.boolean))   {I : MI} {J : MJ} (h : f_Known_doClash x1 x2 I J Q) : Wp Γ 3 0 [(0, .ref (ad Γ 52)), (1, .int x1), (2, .int x2)] [] I J := by
  unfold f_Known_doClash at h
  refine wp_aload_n X dX2_doClash_0 0 rfl ?_
  refine gf_X2_25 (o' := 57) X sh_52 rfl dX2_doClash_1 ?_
  refine wp_iload_n X dX2_doClash_4 1 rfl ?_
  obtain ⟨hb5, h⟩ := h
  refine wp_iald X sh_57 hb5 dX2_doClash_5 ?_
  refine wp_aload_n X dX2_doClash_6 0 rfl ?_
  refine gf_X2_25 (o' := 57) X sh_52 rfl dX2_doClash_7 ?_
  refine wp_iload_n X dX2_doClash_10 2 rfl ?_
  obtain ⟨hb11, h⟩ := h
  refine wp_iald X sh_57 hb11 dX2_doClash_11 ?_
  refine wp_icmp_ne (tgt := 34) X dX2_doClash_12 (by decide) (fun hc => ?_) (fun hc => ?_)
  · have h := ite_f h hc
    refine wp_iconst X dX2_doClash_34 ic_0 ?_
    exact wp_zret X Y dX2_doClash_35 (by decide) ⟨_, rfl, h⟩
  · have h := ite_t h hc
    refine wp_aload_n X dX2_doClash_15 0 rfl ?_
    refine gf_X2_15 (o' := 54) X sh_52 rfl dX2_doClash_16 ?_
    refine wp_iload_n X dX2_doClash_19 1 rfl ?_
    obtain ⟨hb20, h⟩ := h
    refine wp_iald X sh_54 hb20 dX2_doClash_20 ?_
    refine wp_aload_n X dX2_doClash_21 0 rfl ?_
    refine gf_X2_15 (o' := 54) X sh_52 rfl dX2_doClash_22 ?_
    refine wp_iload_n X dX2_doClash_25 2 rfl ?_
    obtain ⟨hb26, h⟩ := h
    refine wp_iald X sh_54 hb26 dX2_doClash_26 ?_
    refine wp_icmp_eq (tgt := 34) X dX2_doClash_27 (by decide) (fun hc => ?_) (fun hc => ?_)
    · have h := ite_t h hc
      refine wp_iconst X dX2_doClash_34 ic_0 ?_
      exact wp_zret X Y dX2_doClash_35 (by decide) ⟨_, rfl, h⟩
    · have h := ite_f h hc
      refine wp_iconst X dX2_doClash_30 ic_1 ?_
      refine wp_goto (tgt := 35) X dX2_doClash_31 (by decide) ?_
      exact wp_zret X Y dX2_doClash_35 (by decide) ⟨_, rfl, h⟩

theorem c_Known_doClash {l : Launch} {g : GE} (hg : Inj g) {I : MI} {J : MJ} {Q : Int32 → MI → MJ → Prop} {x1 : Int32} {x2 : Int32}  (h : f_Known_doClash x1 x2 I J Q) : Cm l g yX2_doClash cX2_doClash 3 (Option.some Jvm.ClassFile.FieldType.boolean) 0 [.ref (g.1 52), .int x1, .int x2] I J (Pi Q) := by
  refine Cm.of (As := fun ad => [.ref (ad 52), .int x1, .int x2]) hg pn_X2 (Nat.le_of_ble_eq_true rfl) ?_
  exact (fun Γ _ _ X Y => w_Known_doClash_b0 X Y  h)
theorem cv_Known_doClash {Γ : Ctx} {cc : ByteArray} {nL d pc index : Nat} {own : String} {L : List (Nat × Value)} {rest : List Value} {I : MI} {J : MJ} {Q : Int32 → MI → MJ → Prop} {x1 : Int32} {x2 : Int32} (X : Cx Γ cc nL own d) (hd : decode cc pc = .ok (.invokevirtual index, 3)) (hlink : Cond.methodLink own index yX2_doClash ∈ TT)  (h : f_Known_doClash x1 x2 I J Q) (hrest : (rest.map fun v => v.category).sum ≤ 8) (hdd : 0 + 1 ≤ d) (kk : ∀ (r : Int32) (I' : MI) (J' : MJ), Q r I' J' → Wp Γ nL (pc + 3) L (.int r :: rest) I' J') : Wp Γ nL pc L (.int x2 :: .int x1 :: .ref (ad Γ 52) :: rest) I J :=
  wp_callV (As := [.int x1, .int x2]) (rest := rest) (T := TX2) (N := 8) X hd hlink mv_X2_doClash sh_52 (by decide) rfl (c_Known_doClash X.inj  h) rfl rfl hrest hdd (fun v I' J' hv => by obtain ⟨r, rfl, hq⟩ := hv; exact kk r I' J' hq)
theorem dX2_clash_0 : decode cX2_clash 0 = .ok (.iconst 0, 1) := by decide +kernel
theorem dX2_clash_1 : decode cX2_clash 1 = .ok (.istore_n 2, 1) := by decide +kernel
theorem dX2_clash_2 : decode cX2_clash 2 = .ok (.iload_n 2, 1) := by decide +kernel
theorem dX2_clash_3 : decode cX2_clash 3 = .ok (.aload_n 0, 1) := by decide +kernel
theorem dX2_clash_4 : decode cX2_clash 4 = .ok (.getfield 34, 3) := by decide +kernel
theorem dX2_clash_7 : decode cX2_clash 7 = .ok (.if_icmp .ge 78, 3) := by decide +kernel
theorem dX2_clash_10 : decode cX2_clash 10 = .ok (.aload_n 0, 1) := by decide +kernel
theorem dX2_clash_11 : decode cX2_clash 11 = .ok (.aload_n 0, 1) := by decide +kernel
theorem dX2_clash_12 : decode cX2_clash 12 = .ok (.getfield 19, 3) := by decide +kernel
theorem dX2_clash_15 : decode cX2_clash 15 = .ok (.iload_n 2, 1) := by decide +kernel
theorem dX2_clash_16 : decode cX2_clash 16 = .ok (.iaload, 1) := by decide +kernel
theorem dX2_clash_17 : decode cX2_clash 17 = .ok (.iload_n 1, 1) := by decide +kernel
theorem dX2_clash_18 : decode cX2_clash 18 = .ok (.invokevirtual 101, 3) := by decide +kernel
theorem dX2_clash_21 : decode cX2_clash 21 = .ok (.iconst 0, 1) := by decide +kernel
theorem dX2_clash_22 : decode cX2_clash 22 = .ok (.istore_n 3, 1) := by decide +kernel
theorem dX2_clash_23 : decode cX2_clash 23 = .ok (.iload_n 3, 1) := by decide +kernel
theorem dX2_clash_24 : decode cX2_clash 24 = .ok (.iload_n 2, 1) := by decide +kernel
theorem dX2_clash_25 : decode cX2_clash 25 = .ok (.if_icmp .ge 54, 3) := by decide +kernel
theorem dX2_clash_28 : decode cX2_clash 28 = .ok (.aload_n 0, 1) := by decide +kernel
theorem dX2_clash_29 : decode cX2_clash 29 = .ok (.aload_n 0, 1) := by decide +kernel
theorem dX2_clash_30 : decode cX2_clash 30 = .ok (.getfield 19, 3) := by decide +kernel
theorem dX2_clash_33 : decode cX2_clash 33 = .ok (.iload_n 2, 1) := by decide +kernel
theorem dX2_clash_34 : decode cX2_clash 34 = .ok (.iaload, 1) := by decide +kernel
theorem dX2_clash_35 : decode cX2_clash 35 = .ok (.aload_n 0, 1) := by decide +kernel
theorem dX2_clash_36 : decode cX2_clash 36 = .ok (.getfield 19, 3) := by decide +kernel
theorem dX2_clash_39 : decode cX2_clash 39 = .ok (.iload_n 3, 1) := by decide +kernel
theorem dX2_clash_40 : decode cX2_clash 40 = .ok (.iaload, 1) := by decide +kernel
theorem dX2_clash_41 : decode cX2_clash 41 = .ok (.invokevirtual 105, 3) := by decide +kernel
theorem dX2_clash_44 : decode cX2_clash 44 = .ok (.ifCond .eq 29, 3) := by decide +kernel
theorem dX2_clash_47 : decode cX2_clash 47 = .ok (.aload_n 0, 1) := by decide +kernel
theorem dX2_clash_48 : decode cX2_clash 48 = .ok (.getfield 28, 3) := by decide +kernel
theorem dX2_clash_51 : decode cX2_clash 51 = .ok (.aload_n 0, 1) := by decide +kernel
theorem dX2_clash_52 : decode cX2_clash 52 = .ok (.getfield 19, 3) := by decide +kernel
theorem dX2_clash_55 : decode cX2_clash 55 = .ok (.iload_n 2, 1) := by decide +kernel
theorem dX2_clash_56 : decode cX2_clash 56 = .ok (.iaload, 1) := by decide +kernel
theorem dX2_clash_57 : decode cX2_clash 57 = .ok (.iaload, 1) := by decide +kernel
theorem dX2_clash_58 : decode cX2_clash 58 = .ok (.aload_n 0, 1) := by decide +kernel
theorem dX2_clash_59 : decode cX2_clash 59 = .ok (.getfield 28, 3) := by decide +kernel
theorem dX2_clash_62 : decode cX2_clash 62 = .ok (.aload_n 0, 1) := by decide +kernel
theorem dX2_clash_63 : decode cX2_clash 63 = .ok (.getfield 19, 3) := by decide +kernel
theorem dX2_clash_66 : decode cX2_clash 66 = .ok (.iload_n 3, 1) := by decide +kernel
theorem dX2_clash_67 : decode cX2_clash 67 = .ok (.iaload, 1) := by decide +kernel
theorem dX2_clash_68 : decode cX2_clash 68 = .ok (.iaload, 1) := by decide +kernel
theorem dX2_clash_69 : decode cX2_clash 69 = .ok (.invokestatic 74, 3) := by decide +kernel
theorem dX2_clash_72 : decode cX2_clash 72 = .ok (.ireturn, 1) := by decide +kernel
theorem dX2_clash_73 : decode cX2_clash 73 = .ok (.iinc 3 1, 3) := by decide +kernel
theorem dX2_clash_76 : decode cX2_clash 76 = .ok (.goto (-53), 3) := by decide +kernel
theorem dX2_clash_79 : decode cX2_clash 79 = .ok (.iinc 2 1, 3) := by decide +kernel
theorem dX2_clash_82 : decode cX2_clash 82 = .ok (.goto (-80), 3) := by decide +kernel
theorem dX2_clash_85 : decode cX2_clash 85 = .ok (.iconst (-1), 1) := by decide +kernel
theorem dX2_clash_86 : decode cX2_clash 86 = .ok (.ireturn, 1) := by decide +kernel
def f_Known_clash_L23 (x2 : Int32) (k47 : Int32 → MI → MJ → Prop) (k79 : MI → MJ → Prop) : Nat → Int32 → MI → MJ → Prop
  | 0, _, _, _ => False
  | nf23 + 1, x3, I, J =>
  (if x2 ≤ x3 then k79 I J else vp_in x2 12 ∧ vp_in x3 12 ∧ f_Known_doClash (I 55 x2.toNatClampNeg) (I 55 x3.toNatClampNeg) I J (fun r41 I41 J41 => (if r41 = 0 then ∀ t73 : Int32, t73 = x3 + 1 → f_Known_clash_L23 x2 k47 k79 nf23 t73 I41 J41 else k47 x3 I41 J41)))
def f_Known_clash_L2 (x1 : Int32) (k47 : Int32 → Int32 → MI → MJ → Prop) (k85 : MI → MJ → Prop) : Nat → Int32 → MI → MJ → Prop
  | 0, _, _, _ => False
  | nf2 + 1, x2, I, J =>
  (if (I 52 0) ≤ x2 then k85 I J else vp_in x2 12 ∧ f_Known_runTable (I 55 x2.toNatClampNeg) x1 I J (fun I18 J18 => ∃ n, f_Known_clash_L23 x2 (fun (z47_x3 : Int32) (I : MI) (J : MJ) => k47 x2 z47_x3 I J) (fun (I : MI) (J : MJ) => ∀ t79 : Int32, t79 = x2 + 1 → f_Known_clash_L2 x1 k47 k85 nf2 t79 I J) n 0 I18 J18))
def f_Known_clash (x1 : Int32) (I : MI) (J : MJ) (Q : Int32 → MI → MJ → Prop) : Prop :=
  ∃ n, f_Known_clash_L2 x1 (fun (z47_x2 : Int32) (z47_x3 : Int32) (I : MI) (J : MJ) => vp_in z47_x2 12 ∧ vp_in (I 55 z47_x2.toNatClampNeg) 12 ∧ vp_in z47_x3 12 ∧ vp_in (I 55 z47_x3.toNatClampNeg) 12 ∧ Q (if (I 58 (I 55 z47_x2.toNatClampNeg).toNatClampNeg) < (I 58 (I 55 z47_x3.toNatClampNeg).toNatClampNeg) then I 58 (I 55 z47_x3.toNatClampNeg).toNatClampNeg else I 58 (I 55 z47_x2.toNatClampNeg).toNatClampNeg) I J) (fun (I : MI) (J : MJ) => Q (-1) I J) n 0 I J
set_option maxRecDepth 100000 in
set_option maxHeartbeats 4000000 in
theorem w_Known_clash_L23 {Γ : Ctx} {Q : Int32 → MI → MJ → Prop} {x1 : Int32} {x2 : Int32} {k47 : Int32 → MI → MJ → Prop} {k79 : MI → MJ → Prop} (X : Cx Γ cX2_clash 4 RX2 2) (Y : Rt Γ (Pi Q) (Option.some Jvm.ClassFile.FieldType.int))  (hk47 : ∀ (x3 : Int32) (I : MI) (J : MJ), k47 x3 I J → Wp Γ 4 47 [(0, .ref (ad Γ 52)), (2, .int x2), (3, .int x3)] [] I J) (hk79 : ∀ (I : MI) (J : MJ), k79 I J → Wp Γ 4 79 [(0, .ref (ad Γ 52)), (1, .int x1), (2, .int x2)] [] I J) : ∀ (n : Nat) (x3 : Int32) (I : MI) (J : MJ), f_Known_clash_L23 x2 k47 k79 n x3 I J → Wp Γ 4 23 [(0, .ref (ad Γ 52)), (1, .int x1), (2, .int x2), (3, .int x3)] [] I J := by
  intro n
  induction n with
  | zero => intro x3 I J h; exact absurd h (by simp [f_Known_clash_L23])
  | succ n ih =>
  intro x3 I J h
  unfold f_Known_clash_L23 at h
  refine wp_iload_n X dX2_clash_23 3 rfl ?_
  refine wp_iload_n X dX2_clash_24 2 rfl ?_
  refine wp_icmp_ge (tgt := 79) X dX2_clash_25 (by decide) (fun hc => ?_) (fun hc => ?_)
  · have h := ite_t h hc
    refine wp_sub X [0, 1, 2] rfl ?_
    exact hk79 _ _ h
  · have h := ite_f h hc
    refine wp_aload_n X dX2_clash_28 0 rfl ?_
    refine wp_aload_n X dX2_clash_29 0 rfl ?_
    refine gf_X2_19 (o' := 55) X sh_52 rfl dX2_clash_30 ?_
    refine wp_iload_n X dX2_clash_33 2 rfl ?_
    obtain ⟨hb34, h⟩ := h
    refine wp_iald X sh_55 hb34 dX2_clash_34 ?_
    refine wp_aload_n X dX2_clash_35 0 rfl ?_
    refine gf_X2_19 (o' := 55) X sh_52 rfl dX2_clash_36 ?_
    refine wp_iload_n X dX2_clash_39 3 rfl ?_
    obtain ⟨hb40, h⟩ := h
    refine wp_iald X sh_55 hb40 dX2_clash_40 ?_
    refine cv_Known_doClash X dX2_clash_41 ml_X2_105  h (Nat.le_of_ble_eq_true rfl) (by decide) (fun r41 I41 J41 h => ?_)
    refine wp_if_eq (tgt := 73) X dX2_clash_44 (by decide) (fun hc => ?_) (fun hc => ?_)
    · have h := ite_t h hc
      obtain ⟨t73, et73⟩ : ∃ y : Int32, y = x3 + 1 := ⟨_, rfl⟩
      have h := h t73 et73
      refine wp_iinc (L' := [(3, .int t73), (0, .ref (ad Γ 52)), (1, .int x1), (2, .int x2)]) X dX2_clash_73 3 rfl (ii_1 et73) (by decide) rfl ?_
      refine wp_goto (tgt := 23) X dX2_clash_76 (by decide) ?_
      refine wp_sub X [1, 2, 3, 0] rfl ?_
      exact ih _ _ _ h
    · have h := ite_f h hc
      refine wp_sub X [0, 2, 3] rfl ?_
      exact hk47 _ _ _ h

set_option maxRecDepth 100000 in
set_option maxHeartbeats 4000000 in
theorem w_Known_clash_L2 {Γ : Ctx} {Q : Int32 → MI → MJ → Prop} {x1 : Int32} {k47 : Int32 → Int32 → MI → MJ → Prop} {k85 : MI → MJ → Prop} (X : Cx Γ cX2_clash 4 RX2 2) (Y : Rt Γ (Pi Q) (Option.some Jvm.ClassFile.FieldType.int))  (hk47 : ∀ (x2 : Int32) (x3 : Int32) (I : MI) (J : MJ), k47 x2 x3 I J → Wp Γ 4 47 [(0, .ref (ad Γ 52)), (2, .int x2), (3, .int x3)] [] I J) (hk85 : ∀ (I : MI) (J : MJ), k85 I J → Wp Γ 4 85 [] [] I J) : ∀ (n : Nat) (x2 : Int32) (I : MI) (J : MJ), f_Known_clash_L2 x1 k47 k85 n x2 I J → Wp Γ 4 2 [(0, .ref (ad Γ 52)), (1, .int x1), (2, .int x2)] [] I J := by
  intro n
  induction n with
  | zero => intro x2 I J h; exact absurd h (by simp [f_Known_clash_L2])
  | succ n ih =>
  intro x2 I J h
  unfold f_Known_clash_L2 at h
  refine wp_iload_n X dX2_clash_2 2 rfl ?_
  refine wp_aload_n X dX2_clash_3 0 rfl ?_
  refine gf_X2_34 X sh_52 dX2_clash_4 ?_
  refine wp_icmp_ge (tgt := 85) X dX2_clash_7 (by decide) (fun hc => ?_) (fun hc => ?_)
  · have h := ite_t h hc
    refine wp_sub X [] rfl ?_
    exact hk85 _ _ h
  · have h := ite_f h hc
    refine wp_aload_n X dX2_clash_10 0 rfl ?_
    refine wp_aload_n X dX2_clash_11 0 rfl ?_
    refine gf_X2_19 (o' := 55) X sh_52 rfl dX2_clash_12 ?_
    refine wp_iload_n X dX2_clash_15 2 rfl ?_
    obtain ⟨hb16, h⟩ := h
    refine wp_iald X sh_55 hb16 dX2_clash_16 ?_
    refine wp_iload_n X dX2_clash_17 1 rfl ?_
    refine cv_Known_runTable X dX2_clash_18 ml_X2_101  h (Nat.le_of_ble_eq_true rfl) (by decide) (fun I18 J18 h => ?_)
    refine wp_iconst X dX2_clash_21 ic_0 ?_
    refine wp_istore_n (L' := [(3, .int 0), (0, .ref (ad Γ 52)), (1, .int x1), (2, .int x2)]) X dX2_clash_22 rfl (by decide) rfl ?_
    obtain ⟨n, h⟩ := h
    refine wp_sub X [1, 2, 3, 0] rfl ?_
    refine w_Known_clash_L23 X Y  ?_ ?_ n _ _ _ h
    · intro z47_x3 I J h
      exact hk47 _ _ _ _ h
    · intro I J h
      obtain ⟨t79, et79⟩ : ∃ y : Int32, y = x2 + 1 := ⟨_, rfl⟩
      have h := h t79 et79
      refine wp_iinc (L' := [(2, .int t79), (0, .ref (ad Γ 52)), (1, .int x1)]) X dX2_clash_79 2 rfl (ii_1 et79) (by decide) rfl ?_
      refine wp_goto (tgt := 2) X dX2_clash_82 (by decide) ?_
      refine wp_sub X [1, 2, 0] rfl ?_
      exact ih _ _ _ h

set_option maxRecDepth 100000 in
set_option maxHeartbeats 4000000 in
theorem w_Known_clash_b0 {Γ : Ctx} {Q : Int32 → MI → MJ → Prop} {x1 : Int32}  (X : Cx Γ cX2_clash 4 RX2 2) (Y : Rt Γ (Pi Q) (Option.some Jvm.ClassFile.FieldType.int))   {I : MI} {J : MJ} (h : f_Known_clash x1 I J Q) : Wp Γ 4 0 [(0, .ref (ad Γ 52)), (1, .int x1)] [] I J := by
  unfold f_Known_clash at h
  refine wp_iconst X dX2_clash_0 ic_0 ?_
  refine wp_istore_n (L' := [(2, .int 0), (0, .ref (ad Γ 52)), (1, .int x1)]) X dX2_clash_1 rfl (by decide) rfl ?_
  obtain ⟨n, h⟩ := h
  refine wp_sub X [1, 2, 0] rfl ?_
  refine w_Known_clash_L2 X Y  ?_ ?_ n _ _ _ h
  · intro z47_x2 z47_x3 I J h
    refine wp_aload_n X dX2_clash_47 0 rfl ?_
    refine gf_X2_28 (o' := 58) X sh_52 rfl dX2_clash_48 ?_
    refine wp_aload_n X dX2_clash_51 0 rfl ?_
    refine gf_X2_19 (o' := 55) X sh_52 rfl dX2_clash_52 ?_
    refine wp_iload_n X dX2_clash_55 1 rfl ?_
    obtain ⟨hb56, h⟩ := h
    refine wp_iald X sh_55 hb56 dX2_clash_56 ?_
    obtain ⟨hb57, h⟩ := h
    refine wp_iald X sh_58 hb57 dX2_clash_57 ?_
    refine wp_aload_n X dX2_clash_58 0 rfl ?_
    refine gf_X2_28 (o' := 58) X sh_52 rfl dX2_clash_59 ?_
    refine wp_aload_n X dX2_clash_62 0 rfl ?_
    refine gf_X2_19 (o' := 55) X sh_52 rfl dX2_clash_63 ?_
    refine wp_iload_n X dX2_clash_66 2 rfl ?_
    obtain ⟨hb67, h⟩ := h
    refine wp_iald X sh_55 hb67 dX2_clash_67 ?_
    obtain ⟨hb68, h⟩ := h
    refine wp_iald X sh_58 hb68 dX2_clash_68 ?_
    refine wp_max X dX2_clash_69 ml_X2_74 mw_max (by decide) (Nat.le_of_ble_eq_true rfl) ?_
    exact wp_iret X Y dX2_clash_72 ⟨_, rfl, h⟩
  · intro I J h
    refine wp_iconst X dX2_clash_85 ic_m1 ?_
    exact wp_iret X Y dX2_clash_86 ⟨_, rfl, h⟩

theorem c_Known_clash {l : Launch} {g : GE} (hg : Inj g) {I : MI} {J : MJ} {Q : Int32 → MI → MJ → Prop} {x1 : Int32}  (h : f_Known_clash x1 I J Q) : Cm l g yX2_clash cX2_clash 4 (Option.some Jvm.ClassFile.FieldType.int) 2 [.ref (g.1 52), .int x1] I J (Pi Q) := by
  refine Cm.of (As := fun ad => [.ref (ad 52), .int x1]) hg pn_X2 (Nat.le_of_ble_eq_true rfl) ?_
  exact (fun Γ _ _ X Y => w_Known_clash_b0 X Y  h)
theorem cv_Known_clash {Γ : Ctx} {cc : ByteArray} {nL d pc index : Nat} {own : String} {L : List (Nat × Value)} {rest : List Value} {I : MI} {J : MJ} {Q : Int32 → MI → MJ → Prop} {x1 : Int32} (X : Cx Γ cc nL own d) (hd : decode cc pc = .ok (.invokevirtual index, 3)) (hlink : Cond.methodLink own index yX2_clash ∈ TT)  (h : f_Known_clash x1 I J Q) (hrest : (rest.map fun v => v.category).sum ≤ 8) (hdd : 2 + 1 ≤ d) (kk : ∀ (r : Int32) (I' : MI) (J' : MJ), Q r I' J' → Wp Γ nL (pc + 3) L (.int r :: rest) I' J') : Wp Γ nL pc L (.int x1 :: .ref (ad Γ 52) :: rest) I J :=
  wp_callV (As := [.int x1]) (rest := rest) (T := TX2) (N := 8) X hd hlink mv_X2_clash sh_52 (by decide) rfl (c_Known_clash X.inj  h) rfl rfl hrest hdd (fun v I' J' hv => by obtain ⟨r, rfl, hq⟩ := hv; exact kk r I' J' hq)
theorem dX2_advanceTable_0 : decode cX2_advanceTable 0 = .ok (.iload_n 1, 1) := by decide +kernel
theorem dX2_advanceTable_1 : decode cX2_advanceTable 1 = .ok (.iconst 1, 1) := by decide +kernel
theorem dX2_advanceTable_2 : decode cX2_advanceTable 2 = .ok (.iadd, 1) := by decide +kernel
theorem dX2_advanceTable_3 : decode cX2_advanceTable 3 = .ok (.istore 4, 2) := by decide +kernel
theorem dX2_advanceTable_5 : decode cX2_advanceTable 5 = .ok (.iload 4, 2) := by decide +kernel
theorem dX2_advanceTable_7 : decode cX2_advanceTable 7 = .ok (.iload_n 3, 1) := by decide +kernel
theorem dX2_advanceTable_8 : decode cX2_advanceTable 8 = .ok (.if_icmp .ge 17, 3) := by decide +kernel
theorem dX2_advanceTable_11 : decode cX2_advanceTable 11 = .ok (.aload_n 0, 1) := by decide +kernel
theorem dX2_advanceTable_12 : decode cX2_advanceTable 12 = .ok (.getfield 31, 3) := by decide +kernel
theorem dX2_advanceTable_15 : decode cX2_advanceTable 15 = .ok (.iload 4, 2) := by decide +kernel
theorem dX2_advanceTable_17 : decode cX2_advanceTable 17 = .ok (.iconst 0, 1) := by decide +kernel
theorem dX2_advanceTable_18 : decode cX2_advanceTable 18 = .ok (.iastore, 1) := by decide +kernel
theorem dX2_advanceTable_19 : decode cX2_advanceTable 19 = .ok (.iinc 4 1, 3) := by decide +kernel
theorem dX2_advanceTable_22 : decode cX2_advanceTable 22 = .ok (.goto (-17), 3) := by decide +kernel
theorem dX2_advanceTable_25 : decode cX2_advanceTable 25 = .ok (.iload_n 1, 1) := by decide +kernel
theorem dX2_advanceTable_26 : decode cX2_advanceTable 26 = .ok (.istore 4, 2) := by decide +kernel
theorem dX2_advanceTable_28 : decode cX2_advanceTable 28 = .ok (.iload 4, 2) := by decide +kernel
theorem dX2_advanceTable_30 : decode cX2_advanceTable 30 = .ok (.ifCond .lt 43, 3) := by decide +kernel
theorem dX2_advanceTable_33 : decode cX2_advanceTable 33 = .ok (.aload_n 0, 1) := by decide +kernel
theorem dX2_advanceTable_34 : decode cX2_advanceTable 34 = .ok (.getfield 31, 3) := by decide +kernel
theorem dX2_advanceTable_37 : decode cX2_advanceTable 37 = .ok (.iload 4, 2) := by decide +kernel
theorem dX2_advanceTable_39 : decode cX2_advanceTable 39 = .ok (.iaload, 1) := by decide +kernel
theorem dX2_advanceTable_40 : decode cX2_advanceTable 40 = .ok (.iload_n 2, 1) := by decide +kernel
theorem dX2_advanceTable_41 : decode cX2_advanceTable 41 = .ok (.iconst 1, 1) := by decide +kernel
theorem dX2_advanceTable_42 : decode cX2_advanceTable 42 = .ok (.isub, 1) := by decide +kernel
theorem dX2_advanceTable_43 : decode cX2_advanceTable 43 = .ok (.if_icmp .ge 16, 3) := by decide +kernel
theorem dX2_advanceTable_46 : decode cX2_advanceTable 46 = .ok (.aload_n 0, 1) := by decide +kernel
theorem dX2_advanceTable_47 : decode cX2_advanceTable 47 = .ok (.getfield 31, 3) := by decide +kernel
theorem dX2_advanceTable_50 : decode cX2_advanceTable 50 = .ok (.iload 4, 2) := by decide +kernel
theorem dX2_advanceTable_52 : decode cX2_advanceTable 52 = .ok (.dup2, 1) := by decide +kernel
theorem dX2_advanceTable_53 : decode cX2_advanceTable 53 = .ok (.iaload, 1) := by decide +kernel
theorem dX2_advanceTable_54 : decode cX2_advanceTable 54 = .ok (.iconst 1, 1) := by decide +kernel
theorem dX2_advanceTable_55 : decode cX2_advanceTable 55 = .ok (.iadd, 1) := by decide +kernel
theorem dX2_advanceTable_56 : decode cX2_advanceTable 56 = .ok (.iastore, 1) := by decide +kernel
theorem dX2_advanceTable_57 : decode cX2_advanceTable 57 = .ok (.iconst 1, 1) := by decide +kernel
theorem dX2_advanceTable_58 : decode cX2_advanceTable 58 = .ok (.ireturn, 1) := by decide +kernel
theorem dX2_advanceTable_59 : decode cX2_advanceTable 59 = .ok (.aload_n 0, 1) := by decide +kernel
theorem dX2_advanceTable_60 : decode cX2_advanceTable 60 = .ok (.getfield 31, 3) := by decide +kernel
theorem dX2_advanceTable_63 : decode cX2_advanceTable 63 = .ok (.iload 4, 2) := by decide +kernel
theorem dX2_advanceTable_65 : decode cX2_advanceTable 65 = .ok (.iconst 0, 1) := by decide +kernel
theorem dX2_advanceTable_66 : decode cX2_advanceTable 66 = .ok (.iastore, 1) := by decide +kernel
theorem dX2_advanceTable_67 : decode cX2_advanceTable 67 = .ok (.iinc 4 (-1), 3) := by decide +kernel
theorem dX2_advanceTable_70 : decode cX2_advanceTable 70 = .ok (.goto (-42), 3) := by decide +kernel
theorem dX2_advanceTable_73 : decode cX2_advanceTable 73 = .ok (.iconst 0, 1) := by decide +kernel
theorem dX2_advanceTable_74 : decode cX2_advanceTable 74 = .ok (.ireturn, 1) := by decide +kernel
def f_Known_advanceTable_L28 (x2 : Int32) (k46 : Int32 → MI → MJ → Prop) (k73 : MI → MJ → Prop) : Nat → Int32 → MI → MJ → Prop
  | 0, _, _, _ => False
  | nf28 + 1, x4, I, J =>
  (if x4 < 0 then k73 I J else vp_in x4 56 ∧ (if (x2 - 1) ≤ (I 59 x4.toNatClampNeg) then vp_in x4 56 ∧ ∀ I66 : MI, I66 = sI I 59 (upd (I 59) x4.toNatClampNeg 0) → ∀ t67 : Int32, t67 = x4 + (-1) → f_Known_advanceTable_L28 x2 k46 k73 nf28 t67 I66 J else k46 x4 I J))
def f_Known_advanceTable_L5 (x3 : Int32) (k25 : MI → MJ → Prop) : Nat → Int32 → MI → MJ → Prop
  | 0, _, _, _ => False
  | nf5 + 1, x4, I, J =>
  (if x3 ≤ x4 then k25 I J else vp_in x4 56 ∧ ∀ I18 : MI, I18 = sI I 59 (upd (I 59) x4.toNatClampNeg 0) → ∀ t19 : Int32, t19 = x4 + 1 → f_Known_advanceTable_L5 x3 k25 nf5 t19 I18 J)
def f_Known_advanceTable (x1 : Int32) (x2 : Int32) (x3 : Int32) (I : MI) (J : MJ) (Q : Int32 → MI → MJ → Prop) : Prop :=
  ∀ t3 : Int32, t3 = x1 + 1 → ∃ n, f_Known_advanceTable_L5 x3 (fun (I : MI) (J : MJ) => ∃ n, f_Known_advanceTable_L28 x2 (fun (z46_x4 : Int32) (I : MI) (J : MJ) => vp_in z46_x4 56 ∧ vp_in z46_x4 56 ∧ ∀ I56 : MI, I56 = sI I 59 (upd (I 59) z46_x4.toNatClampNeg ((I 59 z46_x4.toNatClampNeg) + 1)) → Q 1 I56 J) (fun (I : MI) (J : MJ) => Q 0 I J) n x1 I J) n t3 I J
set_option maxRecDepth 100000 in
set_option maxHeartbeats 4000000 in
theorem w_Known_advanceTable_L28 {Γ : Ctx} {Q : Int32 → MI → MJ → Prop} {x2 : Int32} {k46 : Int32 → MI → MJ → Prop} {k73 : MI → MJ → Prop} (X : Cx Γ cX2_advanceTable 5 RX2 0) (Y : Rt Γ (Pi Q) (Option.some Jvm.ClassFile.FieldType.boolean))  (hk46 : ∀ (x4 : Int32) (I : MI) (J : MJ), k46 x4 I J → Wp Γ 5 46 [(0, .ref (ad Γ 52)), (4, .int x4)] [] I J) (hk73 : ∀ (I : MI) (J : MJ), k73 I J → Wp Γ 5 73 [] [] I J) : ∀ (n : Nat) (x4 : Int32) (I : MI) (J : MJ), f_Known_advanceTable_L28 x2 k46 k73 n x4 I J → Wp Γ 5 28 [(0, .ref (ad Γ 52)), (2, .int x2), (4, .int x4)] [] I J := by
  intro n
  induction n with
  | zero => intro x4 I J h; exact absurd h (by simp [f_Known_advanceTable_L28])
  | succ n ih =>
  intro x4 I J h
  unfold f_Known_advanceTable_L28 at h
  refine wp_iload X dX2_advanceTable_28 2 rfl ?_
  refine wp_if_lt (tgt := 73) X dX2_advanceTable_30 (by decide) (fun hc => ?_) (fun hc => ?_)
  · have h := ite_t h hc
    refine wp_sub X [] rfl ?_
    exact hk73 _ _ h
  · have h := ite_f h hc
    refine wp_aload_n X dX2_advanceTable_33 0 rfl ?_
    refine gf_X2_31 (o' := 59) X sh_52 rfl dX2_advanceTable_34 ?_
    refine wp_iload X dX2_advanceTable_37 2 rfl ?_
    obtain ⟨hb39, h⟩ := h
    refine wp_iald X sh_59 hb39 dX2_advanceTable_39 ?_
    refine wp_iload_n X dX2_advanceTable_40 1 rfl ?_
    refine wp_iconst X dX2_advanceTable_41 ic_1 ?_
    refine wp_isub X dX2_advanceTable_42 ?_
    refine wp_icmp_ge (tgt := 59) X dX2_advanceTable_43 (by decide) (fun hc => ?_) (fun hc => ?_)
    · have h := ite_t h hc
      refine wp_aload_n X dX2_advanceTable_59 0 rfl ?_
      refine gf_X2_31 (o' := 59) X sh_52 rfl dX2_advanceTable_60 ?_
      refine wp_iload X dX2_advanceTable_63 2 rfl ?_
      refine wp_iconst X dX2_advanceTable_65 ic_0 ?_
      obtain ⟨hb66, h⟩ := h
      refine wp_iast X sh_59 hb66 dX2_advanceTable_66 ?_
      refine wp_memI (fun I66 eI66 => ?_)
      have h := h I66 eI66
      obtain ⟨t67, et67⟩ : ∃ y : Int32, y = x4 + (-1) := ⟨_, rfl⟩
      have h := h t67 et67
      refine wp_iinc (L' := [(4, .int t67), (0, .ref (ad Γ 52)), (2, .int x2)]) X dX2_advanceTable_67 2 rfl (ii_m1 et67) (by decide) rfl ?_
      refine wp_goto (tgt := 28) X dX2_advanceTable_70 (by decide) ?_
      refine wp_sub X [1, 2, 0] rfl ?_
      exact ih _ _ _ h
    · have h := ite_f h hc
      refine wp_sub X [0, 2] rfl ?_
      exact hk46 _ _ _ h

set_option maxRecDepth 100000 in
set_option maxHeartbeats 4000000 in
theorem w_Known_advanceTable_L5 {Γ : Ctx} {Q : Int32 → MI → MJ → Prop} {x1 : Int32} {x2 : Int32} {x3 : Int32} {k25 : MI → MJ → Prop} (X : Cx Γ cX2_advanceTable 5 RX2 0) (Y : Rt Γ (Pi Q) (Option.some Jvm.ClassFile.FieldType.boolean))  (hk25 : ∀ (I : MI) (J : MJ), k25 I J → Wp Γ 5 25 [(0, .ref (ad Γ 52)), (1, .int x1), (2, .int x2)] [] I J) : ∀ (n : Nat) (x4 : Int32) (I : MI) (J : MJ), f_Known_advanceTable_L5 x3 k25 n x4 I J → Wp Γ 5 5 [(0, .ref (ad Γ 52)), (1, .int x1), (2, .int x2), (3, .int x3), (4, .int x4)] [] I J := by
  intro n
  induction n with
  | zero => intro x4 I J h; exact absurd h (by simp [f_Known_advanceTable_L5])
  | succ n ih =>
  intro x4 I J h
  unfold f_Known_advanceTable_L5 at h
  refine wp_iload X dX2_advanceTable_5 4 rfl ?_
  refine wp_iload_n X dX2_advanceTable_7 3 rfl ?_
  refine wp_icmp_ge (tgt := 25) X dX2_advanceTable_8 (by decide) (fun hc => ?_) (fun hc => ?_)
  · have h := ite_t h hc
    refine wp_sub X [0, 1, 2] rfl ?_
    exact hk25 _ _ h
  · have h := ite_f h hc
    refine wp_aload_n X dX2_advanceTable_11 0 rfl ?_
    refine gf_X2_31 (o' := 59) X sh_52 rfl dX2_advanceTable_12 ?_
    refine wp_iload X dX2_advanceTable_15 4 rfl ?_
    refine wp_iconst X dX2_advanceTable_17 ic_0 ?_
    obtain ⟨hb18, h⟩ := h
    refine wp_iast X sh_59 hb18 dX2_advanceTable_18 ?_
    refine wp_memI (fun I18 eI18 => ?_)
    have h := h I18 eI18
    obtain ⟨t19, et19⟩ : ∃ y : Int32, y = x4 + 1 := ⟨_, rfl⟩
    have h := h t19 et19
    refine wp_iinc (L' := [(4, .int t19), (0, .ref (ad Γ 52)), (1, .int x1), (2, .int x2), (3, .int x3)]) X dX2_advanceTable_19 4 rfl (ii_1 et19) (by decide) rfl ?_
    refine wp_goto (tgt := 5) X dX2_advanceTable_22 (by decide) ?_
    refine wp_sub X [1, 2, 3, 4, 0] rfl ?_
    exact ih _ _ _ h

set_option maxRecDepth 100000 in
set_option maxHeartbeats 4000000 in
theorem w_Known_advanceTable_b0 {Γ : Ctx} {Q : Int32 → MI → MJ → Prop} {x1 : Int32} {x2 : Int32} {x3 : Int32}  (X : Cx Γ cX2_advanceTable 5 RX2 0) (Y : Rt Γ (Pi Q) (Option.some Jvm.ClassFile.FieldType.boolean))   {I : MI} {J : MJ} (h : f_Known_advanceTable x1 x2 x3 I J Q) : Wp Γ 5 0 [(0, .ref (ad Γ 52)), (1, .int x1), (2, .int x2), (3, .int x3)] [] I J := by
  unfold f_Known_advanceTable at h
  refine wp_iload_n X dX2_advanceTable_0 1 rfl ?_
  refine wp_iconst X dX2_advanceTable_1 ic_1 ?_
  refine wp_iadd X dX2_advanceTable_2 ?_
  refine wp_topi (fun t3 et3 => ?_)
  have h := h t3 et3
  refine wp_istore (L' := [(4, .int t3), (0, .ref (ad Γ 52)), (1, .int x1), (2, .int x2), (3, .int x3)]) X dX2_advanceTable_3 (by decide) rfl ?_
  obtain ⟨n, h⟩ := h
  refine wp_sub X [1, 2, 3, 4, 0] rfl ?_
  refine w_Known_advanceTable_L5 X Y  ?_ n _ _ _ h
  · intro I J h
    refine wp_iload_n X dX2_advanceTable_25 1 rfl ?_
    refine wp_istore (L' := [(4, .int x1), (0, .ref (ad Γ 52)), (1, .int x1), (2, .int x2)]) X dX2_advanceTable_26 (by decide) rfl ?_
    obtain ⟨n, h⟩ := h
    refine wp_sub X [1, 3, 0] rfl ?_
    refine w_Known_advanceTable_L28 X Y  ?_ ?_ n _ _ _ h
    · intro z46_x4 I J h
      refine wp_aload_n X dX2_advanceTable_46 0 rfl ?_
      refine gf_X2_31 (o' := 59) X sh_52 rfl dX2_advanceTable_47 ?_
      refine wp_iload X dX2_advanceTable_50 1 rfl ?_
      refine wp_dup2_11 X dX2_advanceTable_52 rfl rfl ?_
      obtain ⟨hb53, h⟩ := h
      refine wp_iald X sh_59 hb53 dX2_advanceTable_53 ?_
      refine wp_iconst X dX2_advanceTable_54 ic_1 ?_
      refine wp_iadd X dX2_advanceTable_55 ?_
      obtain ⟨hb56, h⟩ := h
      refine wp_iast X sh_59 hb56 dX2_advanceTable_56 ?_
      refine wp_memI (fun I56 eI56 => ?_)
      have h := h I56 eI56
      refine wp_iconst X dX2_advanceTable_57 ic_1 ?_
      exact wp_zret X Y dX2_advanceTable_58 (by decide) ⟨_, rfl, h⟩
    · intro I J h
      refine wp_iconst X dX2_advanceTable_73 ic_0 ?_
      exact wp_zret X Y dX2_advanceTable_74 (by decide) ⟨_, rfl, h⟩

theorem c_Known_advanceTable {l : Launch} {g : GE} (hg : Inj g) {I : MI} {J : MJ} {Q : Int32 → MI → MJ → Prop} {x1 : Int32} {x2 : Int32} {x3 : Int32}  (h : f_Known_advanceTable x1 x2 x3 I J Q) : Cm l g yX2_advanceTable cX2_advanceTable 5 (Option.some Jvm.ClassFile.FieldType.boolean) 0 [.ref (g.1 52), .int x1, .int x2, .int x3] I J (Pi Q) := by
  refine Cm.of (As := fun ad => [.ref (ad 52), .int x1, .int x2, .int x3]) hg pn_X2 (Nat.le_of_ble_eq_true rfl) ?_
  exact (fun Γ _ _ X Y => w_Known_advanceTable_b0 X Y  h)
theorem cv_Known_advanceTable {Γ : Ctx} {cc : ByteArray} {nL d pc index : Nat} {own : String} {L : List (Nat × Value)} {rest : List Value} {I : MI} {J : MJ} {Q : Int32 → MI → MJ → Prop} {x1 : Int32} {x2 : Int32} {x3 : Int32} (X : Cx Γ cc nL own d) (hd : decode cc pc = .ok (.invokevirtual index, 3)) (hlink : Cond.methodLink own index yX2_advanceTable ∈ TT)  (h : f_Known_advanceTable x1 x2 x3 I J Q) (hrest : (rest.map fun v => v.category).sum ≤ 8) (hdd : 0 + 1 ≤ d) (kk : ∀ (r : Int32) (I' : MI) (J' : MJ), Q r I' J' → Wp Γ nL (pc + 3) L (.int r :: rest) I' J') : Wp Γ nL pc L (.int x3 :: .int x2 :: .int x1 :: .ref (ad Γ 52) :: rest) I J :=
  wp_callV (As := [.int x1, .int x2, .int x3]) (rest := rest) (T := TX2) (N := 8) X hd hlink mv_X2_advanceTable sh_52 (by decide) rfl (c_Known_advanceTable X.inj  h) rfl rfl hrest hdd (fun v I' J' hv => by obtain ⟨r, rfl, hq⟩ := hv; exact kk r I' J' hq)
theorem dX2_findTable_0 : decode cX2_findTable 0 = .ok (.aload_n 0, 1) := by decide +kernel
theorem dX2_findTable_1 : decode cX2_findTable 1 = .ok (.getfield 31, 3) := by decide +kernel
theorem dX2_findTable_4 : decode cX2_findTable 4 = .ok (.iconst 0, 1) := by decide +kernel
theorem dX2_findTable_5 : decode cX2_findTable 5 = .ok (.invokestatic 88, 3) := by decide +kernel
theorem dX2_findTable_8 : decode cX2_findTable 8 = .ok (.iconst 0, 1) := by decide +kernel
theorem dX2_findTable_9 : decode cX2_findTable 9 = .ok (.istore_n 3, 1) := by decide +kernel
theorem dX2_findTable_10 : decode cX2_findTable 10 = .ok (.iload_n 3, 1) := by decide +kernel
theorem dX2_findTable_11 : decode cX2_findTable 11 = .ok (.sipush 20000, 3) := by decide +kernel
theorem dX2_findTable_14 : decode cX2_findTable 14 = .ok (.if_icmp .gt 39, 3) := by decide +kernel
theorem dX2_findTable_17 : decode cX2_findTable 17 = .ok (.aload_n 0, 1) := by decide +kernel
theorem dX2_findTable_18 : decode cX2_findTable 18 = .ok (.iload_n 2, 1) := by decide +kernel
theorem dX2_findTable_19 : decode cX2_findTable 19 = .ok (.invokevirtual 94, 3) := by decide +kernel
theorem dX2_findTable_22 : decode cX2_findTable 22 = .ok (.istore 4, 2) := by decide +kernel
theorem dX2_findTable_24 : decode cX2_findTable 24 = .ok (.iload 4, 2) := by decide +kernel
theorem dX2_findTable_26 : decode cX2_findTable 26 = .ok (.iconst (-1), 1) := by decide +kernel
theorem dX2_findTable_27 : decode cX2_findTable 27 = .ok (.if_icmp .ne 5, 3) := by decide +kernel
theorem dX2_findTable_30 : decode cX2_findTable 30 = .ok (.iconst 1, 1) := by decide +kernel
theorem dX2_findTable_31 : decode cX2_findTable 31 = .ok (.ireturn, 1) := by decide +kernel
theorem dX2_findTable_32 : decode cX2_findTable 32 = .ok (.aload_n 0, 1) := by decide +kernel
theorem dX2_findTable_33 : decode cX2_findTable 33 = .ok (.iload 4, 2) := by decide +kernel
theorem dX2_findTable_35 : decode cX2_findTable 35 = .ok (.iload_n 1, 1) := by decide +kernel
theorem dX2_findTable_36 : decode cX2_findTable 36 = .ok (.iload_n 1, 1) := by decide +kernel
theorem dX2_findTable_37 : decode cX2_findTable 37 = .ok (.iload_n 2, 1) := by decide +kernel
theorem dX2_findTable_38 : decode cX2_findTable 38 = .ok (.imul, 1) := by decide +kernel
theorem dX2_findTable_39 : decode cX2_findTable 39 = .ok (.invokevirtual 97, 3) := by decide +kernel
theorem dX2_findTable_42 : decode cX2_findTable 42 = .ok (.ifCond .ne 5, 3) := by decide +kernel
theorem dX2_findTable_45 : decode cX2_findTable 45 = .ok (.iconst 0, 1) := by decide +kernel
theorem dX2_findTable_46 : decode cX2_findTable 46 = .ok (.ireturn, 1) := by decide +kernel
theorem dX2_findTable_47 : decode cX2_findTable 47 = .ok (.iinc 3 1, 3) := by decide +kernel
theorem dX2_findTable_50 : decode cX2_findTable 50 = .ok (.goto (-40), 3) := by decide +kernel
theorem dX2_findTable_53 : decode cX2_findTable 53 = .ok (.iconst 0, 1) := by decide +kernel
theorem dX2_findTable_54 : decode cX2_findTable 54 = .ok (.ireturn, 1) := by decide +kernel
def f_Known_findTable_L10 (x1 : Int32) (x2 : Int32) (k30 : MI → MJ → Prop) (k45 : MI → MJ → Prop) (k53 : MI → MJ → Prop) : Nat → Int32 → MI → MJ → Prop
  | 0, _, _, _ => False
  | nf10 + 1, x3, I, J =>
  (if 20000 < x3 then k53 I J else f_Known_clash x2 I J (fun r19 I19 J19 => (if r19 = (-1) then k30 I19 J19 else f_Known_advanceTable r19 x1 (x1 * x2) I19 J19 (fun r39 I39 J39 => (if r39 = 0 then k45 I39 J39 else ∀ t47 : Int32, t47 = x3 + 1 → f_Known_findTable_L10 x1 x2 k30 k45 k53 nf10 t47 I39 J39)))))
def f_Known_findTable (x1 : Int32) (x2 : Int32) (I : MI) (J : MJ) (Q : Int32 → MI → MJ → Prop) : Prop :=
  f_Arrays_fill 59 56 (0 : Int32) I J (fun I5 J5 => ∃ n, f_Known_findTable_L10 x1 x2 (fun (I : MI) (J : MJ) => Q 1 I J) (fun (I : MI) (J : MJ) => Q 0 I J) (fun (I : MI) (J : MJ) => Q 0 I J) n 0 I5 J5)
set_option maxRecDepth 100000 in
set_option maxHeartbeats 4000000 in
theorem w_Known_findTable_L10 {Γ : Ctx} {Q : Int32 → MI → MJ → Prop} {x1 : Int32} {x2 : Int32} {k30 : MI → MJ → Prop} {k45 : MI → MJ → Prop} {k53 : MI → MJ → Prop} (X : Cx Γ cX2_findTable 5 RX2 3) (Y : Rt Γ (Pi Q) (Option.some Jvm.ClassFile.FieldType.boolean))  (hk30 : ∀ (I : MI) (J : MJ), k30 I J → Wp Γ 5 30 [] [] I J) (hk45 : ∀ (I : MI) (J : MJ), k45 I J → Wp Γ 5 45 [] [] I J) (hk53 : ∀ (I : MI) (J : MJ), k53 I J → Wp Γ 5 53 [] [] I J) : ∀ (n : Nat) (x3 : Int32) (I : MI) (J : MJ), f_Known_findTable_L10 x1 x2 k30 k45 k53 n x3 I J → Wp Γ 5 10 [(0, .ref (ad Γ 52)), (1, .int x1), (2, .int x2), (3, .int x3)] [] I J := by
  intro n
  induction n with
  | zero => intro x3 I J h; exact absurd h (by simp [f_Known_findTable_L10])
  | succ n ih =>
  intro x3 I J h
  unfold f_Known_findTable_L10 at h
  refine wp_iload_n X dX2_findTable_10 3 rfl ?_
  refine wp_sipush X dX2_findTable_11 si_20000 ?_
  refine wp_icmp_gt (tgt := 53) X dX2_findTable_14 (by decide) (fun hc => ?_) (fun hc => ?_)
  · have h := ite_t h hc
    refine wp_sub X [] rfl ?_
    exact hk53 _ _ h
  · have h := ite_f h hc
    refine wp_aload_n X dX2_findTable_17 0 rfl ?_
    refine wp_iload_n X dX2_findTable_18 2 rfl ?_
    refine cv_Known_clash X dX2_findTable_19 ml_X2_94  h (Nat.le_of_ble_eq_true rfl) (by decide) (fun r19 I19 J19 h => ?_)
    refine wp_istore (L' := [(4, .int r19), (0, .ref (ad Γ 52)), (1, .int x1), (2, .int x2), (3, .int x3)]) X dX2_findTable_22 (by decide) rfl ?_
    refine wp_iload X dX2_findTable_24 0 rfl ?_
    refine wp_iconst X dX2_findTable_26 ic_m1 ?_
    refine wp_icmp_ne (tgt := 32) X dX2_findTable_27 (by decide) (fun hc => ?_) (fun hc => ?_)
    · have h := ite_f h hc
      refine wp_aload_n X dX2_findTable_32 1 rfl ?_
      refine wp_iload X dX2_findTable_33 0 rfl ?_
      refine wp_iload_n X dX2_findTable_35 2 rfl ?_
      refine wp_iload_n X dX2_findTable_36 2 rfl ?_
      refine wp_iload_n X dX2_findTable_37 3 rfl ?_
      refine wp_imul X dX2_findTable_38 ?_
      refine cv_Known_advanceTable X dX2_findTable_39 ml_X2_97  h (Nat.le_of_ble_eq_true rfl) (by decide) (fun r39 I39 J39 h => ?_)
      refine wp_if_ne (tgt := 47) X dX2_findTable_42 (by decide) (fun hc => ?_) (fun hc => ?_)
      · have h := ite_f h hc
        obtain ⟨t47, et47⟩ : ∃ y : Int32, y = x3 + 1 := ⟨_, rfl⟩
        have h := h t47 et47
        refine wp_iinc (L' := [(3, .int t47), (4, .int r19), (0, .ref (ad Γ 52)), (1, .int x1), (2, .int x2)]) X dX2_findTable_47 4 rfl (ii_1 et47) (by decide) rfl ?_
        refine wp_goto (tgt := 10) X dX2_findTable_50 (by decide) ?_
        refine wp_sub X [2, 3, 4, 0] rfl ?_
        exact ih _ _ _ h
      · have h := ite_t h hc
        refine wp_sub X [] rfl ?_
        exact hk45 _ _ h
    · have h := ite_t h hc
      refine wp_sub X [] rfl ?_
      exact hk30 _ _ h

set_option maxRecDepth 100000 in
set_option maxHeartbeats 4000000 in
theorem w_Known_findTable_b0 {Γ : Ctx} {Q : Int32 → MI → MJ → Prop} {x1 : Int32} {x2 : Int32}  (X : Cx Γ cX2_findTable 5 RX2 3) (Y : Rt Γ (Pi Q) (Option.some Jvm.ClassFile.FieldType.boolean))   {I : MI} {J : MJ} (h : f_Known_findTable x1 x2 I J Q) : Wp Γ 5 0 [(0, .ref (ad Γ 52)), (1, .int x1), (2, .int x2)] [] I J := by
  unfold f_Known_findTable at h
  refine wp_aload_n X dX2_findTable_0 0 rfl ?_
  refine gf_X2_31 (o' := 59) X sh_52 rfl dX2_findTable_1 ?_
  refine wp_iconst X dX2_findTable_4 ic_0 ?_
  refine cs_Arrays_fill X dX2_findTable_5 ml_X2_88 sh_59 h (Nat.le_of_ble_eq_true rfl) (by decide) (fun I5 J5 h => ?_)
  refine wp_iconst X dX2_findTable_8 ic_0 ?_
  refine wp_istore_n (L' := [(3, .int 0), (0, .ref (ad Γ 52)), (1, .int x1), (2, .int x2)]) X dX2_findTable_9 rfl (by decide) rfl ?_
  obtain ⟨n, h⟩ := h
  refine wp_sub X [1, 2, 3, 0] rfl ?_
  refine w_Known_findTable_L10 X Y  ?_ ?_ ?_ n _ _ _ h
  · intro I J h
    refine wp_iconst X dX2_findTable_30 ic_1 ?_
    exact wp_zret X Y dX2_findTable_31 (by decide) ⟨_, rfl, h⟩
  · intro I J h
    refine wp_iconst X dX2_findTable_45 ic_0 ?_
    exact wp_zret X Y dX2_findTable_46 (by decide) ⟨_, rfl, h⟩
  · intro I J h
    refine wp_iconst X dX2_findTable_53 ic_0 ?_
    exact wp_zret X Y dX2_findTable_54 (by decide) ⟨_, rfl, h⟩

theorem c_Known_findTable {l : Launch} {g : GE} (hg : Inj g) {I : MI} {J : MJ} {Q : Int32 → MI → MJ → Prop} {x1 : Int32} {x2 : Int32}  (h : f_Known_findTable x1 x2 I J Q) : Cm l g yX2_findTable cX2_findTable 5 (Option.some Jvm.ClassFile.FieldType.boolean) 3 [.ref (g.1 52), .int x1, .int x2] I J (Pi Q) := by
  refine Cm.of (As := fun ad => [.ref (ad 52), .int x1, .int x2]) hg pn_X2 (Nat.le_of_ble_eq_true rfl) ?_
  exact (fun Γ _ _ X Y => w_Known_findTable_b0 X Y  h)
theorem cv_Known_findTable {Γ : Ctx} {cc : ByteArray} {nL d pc index : Nat} {own : String} {L : List (Nat × Value)} {rest : List Value} {I : MI} {J : MJ} {Q : Int32 → MI → MJ → Prop} {x1 : Int32} {x2 : Int32} (X : Cx Γ cc nL own d) (hd : decode cc pc = .ok (.invokevirtual index, 3)) (hlink : Cond.methodLink own index yX2_findTable ∈ TT)  (h : f_Known_findTable x1 x2 I J Q) (hrest : (rest.map fun v => v.category).sum ≤ 8) (hdd : 3 + 1 ≤ d) (kk : ∀ (r : Int32) (I' : MI) (J' : MJ), Q r I' J' → Wp Γ nL (pc + 3) L (.int r :: rest) I' J') : Wp Γ nL pc L (.int x2 :: .int x1 :: .ref (ad Γ 52) :: rest) I J :=
  wp_callV (As := [.int x1, .int x2]) (rest := rest) (T := TX2) (N := 8) X hd hlink mv_X2_findTable sh_52 (by decide) rfl (c_Known_findTable X.inj  h) rfl rfl hrest hdd (fun v I' J' hv => by obtain ⟨r, rfl, hq⟩ := hv; exact kk r I' J' hq)
theorem dX2_writeTable_0 : decode cX2_writeTable 0 = .ok (.aload_n 1, 1) := by decide +kernel
theorem dX2_writeTable_1 : decode cX2_writeTable 1 = .ok (.iconst 0, 1) := by decide +kernel
theorem dX2_writeTable_2 : decode cX2_writeTable 2 = .ok (.iload_n 2, 1) := by decide +kernel
theorem dX2_writeTable_3 : decode cX2_writeTable 3 = .ok (.iload_n 3, 1) := by decide +kernel
theorem dX2_writeTable_4 : decode cX2_writeTable 4 = .ok (.invokevirtual 108, 3) := by decide +kernel
theorem dX2_writeTable_7 : decode cX2_writeTable 7 = .ok (.iconst 0, 1) := by decide +kernel
theorem dX2_writeTable_8 : decode cX2_writeTable 8 = .ok (.istore 4, 2) := by decide +kernel
theorem dX2_writeTable_10 : decode cX2_writeTable 10 = .ok (.iload 4, 2) := by decide +kernel
theorem dX2_writeTable_12 : decode cX2_writeTable 12 = .ok (.iload_n 2, 1) := by decide +kernel
theorem dX2_writeTable_13 : decode cX2_writeTable 13 = .ok (.if_icmp .ge 48, 3) := by decide +kernel
theorem dX2_writeTable_16 : decode cX2_writeTable 16 = .ok (.iconst 0, 1) := by decide +kernel
theorem dX2_writeTable_17 : decode cX2_writeTable 17 = .ok (.istore 5, 2) := by decide +kernel
theorem dX2_writeTable_19 : decode cX2_writeTable 19 = .ok (.iload 5, 2) := by decide +kernel
theorem dX2_writeTable_21 : decode cX2_writeTable 21 = .ok (.iload_n 3, 1) := by decide +kernel
theorem dX2_writeTable_22 : decode cX2_writeTable 22 = .ok (.if_icmp .ge 33, 3) := by decide +kernel
theorem dX2_writeTable_25 : decode cX2_writeTable 25 = .ok (.aload_n 1, 1) := by decide +kernel
theorem dX2_writeTable_26 : decode cX2_writeTable 26 = .ok (.getfield 112, 3) := by decide +kernel
theorem dX2_writeTable_29 : decode cX2_writeTable 29 = .ok (.iload 4, 2) := by decide +kernel
theorem dX2_writeTable_31 : decode cX2_writeTable 31 = .ok (.iconst 4, 1) := by decide +kernel
theorem dX2_writeTable_32 : decode cX2_writeTable 32 = .ok (.imul, 1) := by decide +kernel
theorem dX2_writeTable_33 : decode cX2_writeTable 33 = .ok (.iload 5, 2) := by decide +kernel
theorem dX2_writeTable_35 : decode cX2_writeTable 35 = .ok (.iadd, 1) := by decide +kernel
theorem dX2_writeTable_36 : decode cX2_writeTable 36 = .ok (.aload_n 0, 1) := by decide +kernel
theorem dX2_writeTable_37 : decode cX2_writeTable 37 = .ok (.getfield 31, 3) := by decide +kernel
theorem dX2_writeTable_40 : decode cX2_writeTable 40 = .ok (.iload 4, 2) := by decide +kernel
theorem dX2_writeTable_42 : decode cX2_writeTable 42 = .ok (.iload_n 3, 1) := by decide +kernel
theorem dX2_writeTable_43 : decode cX2_writeTable 43 = .ok (.imul, 1) := by decide +kernel
theorem dX2_writeTable_44 : decode cX2_writeTable 44 = .ok (.iload 5, 2) := by decide +kernel
theorem dX2_writeTable_46 : decode cX2_writeTable 46 = .ok (.iadd, 1) := by decide +kernel
theorem dX2_writeTable_47 : decode cX2_writeTable 47 = .ok (.iaload, 1) := by decide +kernel
theorem dX2_writeTable_48 : decode cX2_writeTable 48 = .ok (.iastore, 1) := by decide +kernel
theorem dX2_writeTable_49 : decode cX2_writeTable 49 = .ok (.iinc 5 1, 3) := by decide +kernel
theorem dX2_writeTable_52 : decode cX2_writeTable 52 = .ok (.goto (-33), 3) := by decide +kernel
theorem dX2_writeTable_55 : decode cX2_writeTable 55 = .ok (.iinc 4 1, 3) := by decide +kernel
theorem dX2_writeTable_58 : decode cX2_writeTable 58 = .ok (.goto (-48), 3) := by decide +kernel
theorem dX2_writeTable_61 : decode cX2_writeTable 61 = .ok (.iconst 0, 1) := by decide +kernel
theorem dX2_writeTable_62 : decode cX2_writeTable 62 = .ok (.istore 4, 2) := by decide +kernel
theorem dX2_writeTable_64 : decode cX2_writeTable 64 = .ok (.iload 4, 2) := by decide +kernel
theorem dX2_writeTable_66 : decode cX2_writeTable 66 = .ok (.aload_n 0, 1) := by decide +kernel
theorem dX2_writeTable_67 : decode cX2_writeTable 67 = .ok (.getfield 34, 3) := by decide +kernel
theorem dX2_writeTable_70 : decode cX2_writeTable 70 = .ok (.if_icmp .ge 28, 3) := by decide +kernel
theorem dX2_writeTable_73 : decode cX2_writeTable 73 = .ok (.aload_n 1, 1) := by decide +kernel
theorem dX2_writeTable_74 : decode cX2_writeTable 74 = .ok (.getfield 115, 3) := by decide +kernel
theorem dX2_writeTable_77 : decode cX2_writeTable 77 = .ok (.aload_n 0, 1) := by decide +kernel
theorem dX2_writeTable_78 : decode cX2_writeTable 78 = .ok (.getfield 25, 3) := by decide +kernel
theorem dX2_writeTable_81 : decode cX2_writeTable 81 = .ok (.iload 4, 2) := by decide +kernel
theorem dX2_writeTable_83 : decode cX2_writeTable 83 = .ok (.iaload, 1) := by decide +kernel
theorem dX2_writeTable_84 : decode cX2_writeTable 84 = .ok (.aload_n 0, 1) := by decide +kernel
theorem dX2_writeTable_85 : decode cX2_writeTable 85 = .ok (.getfield 15, 3) := by decide +kernel
theorem dX2_writeTable_88 : decode cX2_writeTable 88 = .ok (.iload 4, 2) := by decide +kernel
theorem dX2_writeTable_90 : decode cX2_writeTable 90 = .ok (.iaload, 1) := by decide +kernel
theorem dX2_writeTable_91 : decode cX2_writeTable 91 = .ok (.iastore, 1) := by decide +kernel
theorem dX2_writeTable_92 : decode cX2_writeTable 92 = .ok (.iinc 4 1, 3) := by decide +kernel
theorem dX2_writeTable_95 : decode cX2_writeTable 95 = .ok (.goto (-31), 3) := by decide +kernel
theorem dX2_writeTable_98 : decode cX2_writeTable 98 = .ok (.aload_n 1, 1) := by decide +kernel
theorem dX2_writeTable_99 : decode cX2_writeTable 99 = .ok (.invokevirtual 116, 3) := by decide +kernel
theorem dX2_writeTable_102 : decode cX2_writeTable 102 = .ok (.return_, 1) := by decide +kernel
def f_Known_writeTable_L64 (x1 : Nat) (k98 : MI → MJ → Prop) : Nat → Int32 → MI → MJ → Prop
  | 0, _, _, _ => False
  | nf64 + 1, x4, I, J =>
  (if (I 52 0) ≤ x4 then k98 I J else vp_in x4 12 ∧ vp_in x4 12 ∧ vp_in (I 57 x4.toNatClampNeg) 14 ∧ ∀ I91 : MI, I91 = sI I (x1 + 4) (upd (I (x1 + 4)) (I 57 x4.toNatClampNeg).toNatClampNeg (I 54 x4.toNatClampNeg)) → ∀ t92 : Int32, t92 = x4 + 1 → f_Known_writeTable_L64 x1 k98 nf64 t92 I91 J)
def f_Known_writeTable_L19 (x1 : Nat) (x3 : Int32) (x4 : Int32) (k55 : MI → MJ → Prop) : Nat → Int32 → MI → MJ → Prop
  | 0, _, _, _ => False
  | nf19 + 1, x5, I, J =>
  (if x3 ≤ x5 then k55 I J else vp_in ((x4 * x3) + x5) 56 ∧ vp_in ((x4 * 4) + x5) 56 ∧ ∀ I48 : MI, I48 = sI I (x1 + 2) (upd (I (x1 + 2)) ((x4 * 4) + x5).toNatClampNeg (I 59 ((x4 * x3) + x5).toNatClampNeg)) → ∀ t49 : Int32, t49 = x5 + 1 → f_Known_writeTable_L19 x1 x3 x4 k55 nf19 t49 I48 J)
def f_Known_writeTable_L10 (x1 : Nat) (x2 : Int32) (x3 : Int32) (k61 : MI → MJ → Prop) : Nat → Int32 → MI → MJ → Prop
  | 0, _, _, _ => False
  | nf10 + 1, x4, I, J =>
  (if x2 ≤ x4 then k61 I J else ∃ n, f_Known_writeTable_L19 x1 x3 x4 (fun (I : MI) (J : MJ) => ∀ t55 : Int32, t55 = x4 + 1 → f_Known_writeTable_L10 x1 x2 x3 k61 nf10 t55 I J) n 0 I J)
def f_Known_writeTable (x1 : Nat) (x2 : Int32) (x3 : Int32) (I : MI) (J : MJ) (Q : MI → MJ → Prop) : Prop :=
  f_Machine_begin x1 (0 : Int32) x2 x3 I J (fun I4 J4 => ∃ n, f_Known_writeTable_L10 x1 x2 x3 (fun (I : MI) (J : MJ) => ∃ n, f_Known_writeTable_L64 x1 (fun (I : MI) (J : MJ) => f_Machine_settleKind x1 I J (fun I99 J99 => Q I99 J99)) n 0 I J) n 0 I4 J4)
set_option maxRecDepth 100000 in
set_option maxHeartbeats 4000000 in
theorem w_Known_writeTable_L64 {Γ : Ctx} {Q : MI → MJ → Prop} {x1 : Nat} {k98 : MI → MJ → Prop} (X : Cx Γ cX2_writeTable 6 RX2 3) (Y : Rt Γ (Pv Q) (Option.none : Option Jvm.ClassFile.FieldType)) (hx1 : okM x1) (hk98 : ∀ (I : MI) (J : MJ), k98 I J → Wp Γ 6 98 [(1, .ref (ad Γ x1))] [] I J) : ∀ (n : Nat) (x4 : Int32) (I : MI) (J : MJ), f_Known_writeTable_L64 x1 k98 n x4 I J → Wp Γ 6 64 [(0, .ref (ad Γ 52)), (1, .ref (ad Γ x1)), (4, .int x4)] [] I J := by
  intro n
  induction n with
  | zero => intro x4 I J h; exact absurd h (by simp [f_Known_writeTable_L64])
  | succ n ih =>
  intro x4 I J h
  unfold f_Known_writeTable_L64 at h
  refine wp_iload X dX2_writeTable_64 2 rfl ?_
  refine wp_aload_n X dX2_writeTable_66 0 rfl ?_
  refine gf_X2_34 X sh_52 dX2_writeTable_67 ?_
  refine wp_icmp_ge (tgt := 98) X dX2_writeTable_70 (by decide) (fun hc => ?_) (fun hc => ?_)
  · have h := ite_t h hc
    refine wp_sub X [1] rfl ?_
    exact hk98 _ _ h
  · have h := ite_f h hc
    refine wp_aload_n X dX2_writeTable_73 1 rfl ?_
    refine gf_X2_115 (o' := x1 + 4) X hx1.1 rfl dX2_writeTable_74 ?_
    refine wp_aload_n X dX2_writeTable_77 0 rfl ?_
    refine gf_X2_25 (o' := 57) X sh_52 rfl dX2_writeTable_78 ?_
    refine wp_iload X dX2_writeTable_81 2 rfl ?_
    obtain ⟨hb83, h⟩ := h
    refine wp_iald X sh_57 hb83 dX2_writeTable_83 ?_
    refine wp_aload_n X dX2_writeTable_84 0 rfl ?_
    refine gf_X2_15 (o' := 54) X sh_52 rfl dX2_writeTable_85 ?_
    refine wp_iload X dX2_writeTable_88 2 rfl ?_
    obtain ⟨hb90, h⟩ := h
    refine wp_iald X sh_54 hb90 dX2_writeTable_90 ?_
    obtain ⟨hb91, h⟩ := h
    refine wp_iast X hx1.2.2.2.2 hb91 dX2_writeTable_91 ?_
    refine wp_memI (fun I91 eI91 => ?_)
    have h := h I91 eI91
    obtain ⟨t92, et92⟩ : ∃ y : Int32, y = x4 + 1 := ⟨_, rfl⟩
    have h := h t92 et92
    refine wp_iinc (L' := [(4, .int t92), (0, .ref (ad Γ 52)), (1, .ref (ad Γ x1))]) X dX2_writeTable_92 2 rfl (ii_1 et92) (by decide) rfl ?_
    refine wp_goto (tgt := 64) X dX2_writeTable_95 (by decide) ?_
    refine wp_sub X [1, 2, 0] rfl ?_
    exact ih _ _ _ h

set_option maxRecDepth 100000 in
set_option maxHeartbeats 4000000 in
theorem w_Known_writeTable_L19 {Γ : Ctx} {Q : MI → MJ → Prop} {x1 : Nat} {x2 : Int32} {x3 : Int32} {x4 : Int32} {k55 : MI → MJ → Prop} (X : Cx Γ cX2_writeTable 6 RX2 3) (Y : Rt Γ (Pv Q) (Option.none : Option Jvm.ClassFile.FieldType)) (hx1 : okM x1) (hk55 : ∀ (I : MI) (J : MJ), k55 I J → Wp Γ 6 55 [(0, .ref (ad Γ 52)), (1, .ref (ad Γ x1)), (2, .int x2), (3, .int x3), (4, .int x4)] [] I J) : ∀ (n : Nat) (x5 : Int32) (I : MI) (J : MJ), f_Known_writeTable_L19 x1 x3 x4 k55 n x5 I J → Wp Γ 6 19 [(0, .ref (ad Γ 52)), (1, .ref (ad Γ x1)), (2, .int x2), (3, .int x3), (4, .int x4), (5, .int x5)] [] I J := by
  intro n
  induction n with
  | zero => intro x5 I J h; exact absurd h (by simp [f_Known_writeTable_L19])
  | succ n ih =>
  intro x5 I J h
  unfold f_Known_writeTable_L19 at h
  refine wp_iload X dX2_writeTable_19 5 rfl ?_
  refine wp_iload_n X dX2_writeTable_21 3 rfl ?_
  refine wp_icmp_ge (tgt := 55) X dX2_writeTable_22 (by decide) (fun hc => ?_) (fun hc => ?_)
  · have h := ite_t h hc
    refine wp_sub X [0, 1, 2, 3, 4] rfl ?_
    exact hk55 _ _ h
  · have h := ite_f h hc
    refine wp_aload_n X dX2_writeTable_25 1 rfl ?_
    refine gf_X2_112 (o' := x1 + 2) X hx1.1 rfl dX2_writeTable_26 ?_
    refine wp_iload X dX2_writeTable_29 4 rfl ?_
    refine wp_iconst X dX2_writeTable_31 ic_4 ?_
    refine wp_imul X dX2_writeTable_32 ?_
    refine wp_iload X dX2_writeTable_33 5 rfl ?_
    refine wp_iadd X dX2_writeTable_35 ?_
    refine wp_aload_n X dX2_writeTable_36 0 rfl ?_
    refine gf_X2_31 (o' := 59) X sh_52 rfl dX2_writeTable_37 ?_
    refine wp_iload X dX2_writeTable_40 4 rfl ?_
    refine wp_iload_n X dX2_writeTable_42 3 rfl ?_
    refine wp_imul X dX2_writeTable_43 ?_
    refine wp_iload X dX2_writeTable_44 5 rfl ?_
    refine wp_iadd X dX2_writeTable_46 ?_
    obtain ⟨hb47, h⟩ := h
    refine wp_iald X sh_59 hb47 dX2_writeTable_47 ?_
    obtain ⟨hb48, h⟩ := h
    refine wp_iast X hx1.2.2.1 hb48 dX2_writeTable_48 ?_
    refine wp_memI (fun I48 eI48 => ?_)
    have h := h I48 eI48
    obtain ⟨t49, et49⟩ : ∃ y : Int32, y = x5 + 1 := ⟨_, rfl⟩
    have h := h t49 et49
    refine wp_iinc (L' := [(5, .int t49), (0, .ref (ad Γ 52)), (1, .ref (ad Γ x1)), (2, .int x2), (3, .int x3), (4, .int x4)]) X dX2_writeTable_49 5 rfl (ii_1 et49) (by decide) rfl ?_
    refine wp_goto (tgt := 19) X dX2_writeTable_52 (by decide) ?_
    refine wp_sub X [1, 2, 3, 4, 5, 0] rfl ?_
    exact ih _ _ _ h

set_option maxRecDepth 100000 in
set_option maxHeartbeats 4000000 in
theorem w_Known_writeTable_L10 {Γ : Ctx} {Q : MI → MJ → Prop} {x1 : Nat} {x2 : Int32} {x3 : Int32} {k61 : MI → MJ → Prop} (X : Cx Γ cX2_writeTable 6 RX2 3) (Y : Rt Γ (Pv Q) (Option.none : Option Jvm.ClassFile.FieldType)) (hx1 : okM x1) (hk61 : ∀ (I : MI) (J : MJ), k61 I J → Wp Γ 6 61 [(0, .ref (ad Γ 52)), (1, .ref (ad Γ x1))] [] I J) : ∀ (n : Nat) (x4 : Int32) (I : MI) (J : MJ), f_Known_writeTable_L10 x1 x2 x3 k61 n x4 I J → Wp Γ 6 10 [(0, .ref (ad Γ 52)), (1, .ref (ad Γ x1)), (2, .int x2), (3, .int x3), (4, .int x4)] [] I J := by
  intro n
  induction n with
  | zero => intro x4 I J h; exact absurd h (by simp [f_Known_writeTable_L10])
  | succ n ih =>
  intro x4 I J h
  unfold f_Known_writeTable_L10 at h
  refine wp_iload X dX2_writeTable_10 4 rfl ?_
  refine wp_iload_n X dX2_writeTable_12 2 rfl ?_
  refine wp_icmp_ge (tgt := 61) X dX2_writeTable_13 (by decide) (fun hc => ?_) (fun hc => ?_)
  · have h := ite_t h hc
    refine wp_sub X [0, 1] rfl ?_
    exact hk61 _ _ h
  · have h := ite_f h hc
    refine wp_iconst X dX2_writeTable_16 ic_0 ?_
    refine wp_istore (L' := [(5, .int 0), (0, .ref (ad Γ 52)), (1, .ref (ad Γ x1)), (2, .int x2), (3, .int x3), (4, .int x4)]) X dX2_writeTable_17 (by decide) rfl ?_
    obtain ⟨n, h⟩ := h
    refine wp_sub X [1, 2, 3, 4, 5, 0] rfl ?_
    refine w_Known_writeTable_L19 X Y hx1 ?_ n _ _ _ h
    · intro I J h
      obtain ⟨t55, et55⟩ : ∃ y : Int32, y = x4 + 1 := ⟨_, rfl⟩
      have h := h t55 et55
      refine wp_iinc (L' := [(4, .int t55), (0, .ref (ad Γ 52)), (1, .ref (ad Γ x1)), (2, .int x2), (3, .int x3)]) X dX2_writeTable_55 4 rfl (ii_1 et55) (by decide) rfl ?_
      refine wp_goto (tgt := 10) X dX2_writeTable_58 (by decide) ?_
      refine wp_sub X [1, 2, 3, 4, 0] rfl ?_
      exact ih _ _ _ h

set_option maxRecDepth 100000 in
set_option maxHeartbeats 4000000 in
theorem w_Known_writeTable_b0 {Γ : Ctx} {Q : MI → MJ → Prop} {x1 : Nat} {x2 : Int32} {x3 : Int32}  (X : Cx Γ cX2_writeTable 6 RX2 3) (Y : Rt Γ (Pv Q) (Option.none : Option Jvm.ClassFile.FieldType)) (hx1 : okM x1)  {I : MI} {J : MJ} (h : f_Known_writeTable x1 x2 x3 I J Q) : Wp Γ 6 0 [(0, .ref (ad Γ 52)), (1, .ref (ad Γ x1)), (2, .int x2), (3, .int x3)] [] I J := by
  unfold f_Known_writeTable at h
  refine wp_aload_n X dX2_writeTable_0 1 rfl ?_
  refine wp_iconst X dX2_writeTable_1 ic_0 ?_
  refine wp_iload_n X dX2_writeTable_2 2 rfl ?_
  refine wp_iload_n X dX2_writeTable_3 3 rfl ?_
  refine cv_Machine_begin X dX2_writeTable_4 ml_X2_108 hx1 h (Nat.le_of_ble_eq_true rfl) (by decide) (fun I4 J4 h => ?_)
  refine wp_iconst X dX2_writeTable_7 ic_0 ?_
  refine wp_istore (L' := [(4, .int 0), (0, .ref (ad Γ 52)), (1, .ref (ad Γ x1)), (2, .int x2), (3, .int x3)]) X dX2_writeTable_8 (by decide) rfl ?_
  obtain ⟨n, h⟩ := h
  refine wp_sub X [1, 2, 3, 4, 0] rfl ?_
  refine w_Known_writeTable_L10 X Y hx1 ?_ n _ _ _ h
  · intro I J h
    refine wp_iconst X dX2_writeTable_61 ic_0 ?_
    refine wp_istore (L' := [(4, .int 0), (0, .ref (ad Γ 52)), (1, .ref (ad Γ x1))]) X dX2_writeTable_62 (by decide) rfl ?_
    obtain ⟨n, h⟩ := h
    refine wp_sub X [1, 2, 0] rfl ?_
    refine w_Known_writeTable_L64 X Y hx1 ?_ n _ _ _ h
    · intro I J h
      refine wp_aload_n X dX2_writeTable_98 0 rfl ?_
      refine cv_Machine_settleKind X dX2_writeTable_99 ml_X2_116 hx1 h (Nat.le_of_ble_eq_true rfl) (by decide) (fun I99 J99 h => ?_)
      exact wp_vret X Y dX2_writeTable_102 ⟨rfl, h⟩

theorem c_Known_writeTable {l : Launch} {g : GE} (hg : Inj g) {I : MI} {J : MJ} {Q : MI → MJ → Prop} {x1 : Nat} {x2 : Int32} {x3 : Int32} (hx1 : okM x1) (h : f_Known_writeTable x1 x2 x3 I J Q) : Cm l g yX2_writeTable cX2_writeTable 6 (Option.none : Option Jvm.ClassFile.FieldType) 3 [.ref (g.1 52), .ref (g.1 x1), .int x2, .int x3] I J (Pv Q) := by
  refine Cm.of (As := fun ad => [.ref (ad 52), .ref (ad x1), .int x2, .int x3]) hg pn_X2 (Nat.le_of_ble_eq_true rfl) ?_
  exact (fun Γ _ _ X Y => w_Known_writeTable_b0 X Y hx1 h)
theorem cv_Known_writeTable {Γ : Ctx} {cc : ByteArray} {nL d pc index : Nat} {own : String} {L : List (Nat × Value)} {rest : List Value} {I : MI} {J : MJ} {Q : MI → MJ → Prop} {x1 : Nat} {x2 : Int32} {x3 : Int32} (X : Cx Γ cc nL own d) (hd : decode cc pc = .ok (.invokevirtual index, 3)) (hlink : Cond.methodLink own index yX2_writeTable ∈ TT) (hx1 : okM x1) (h : f_Known_writeTable x1 x2 x3 I J Q) (hrest : (rest.map fun v => v.category).sum ≤ 8) (hdd : 3 + 1 ≤ d) (kk : ∀ (I' : MI) (J' : MJ), Q I' J' → Wp Γ nL (pc + 3) L rest I' J') : Wp Γ nL pc L (.int x3 :: .int x2 :: .ref (ad Γ x1) :: .ref (ad Γ 52) :: rest) I J :=
  wp_callV (As := [.ref (ad Γ x1), .int x2, .int x3]) (rest := rest) (T := TX2) (N := 8) X hd hlink mv_X2_writeTable sh_52 (by decide) rfl (c_Known_writeTable X.inj hx1 h) rfl rfl hrest hdd (fun v I' J' hv => by obtain ⟨rfl, hq⟩ := hv; exact kk I' J' hq)
theorem dX2_makeFewest_0 : decode cX2_makeFewest 0 = .ok (.aload_n 0, 1) := by decide +kernel
theorem dX2_makeFewest_1 : decode cX2_makeFewest 1 = .ok (.invokevirtual 49, 3) := by decide +kernel
theorem dX2_makeFewest_4 : decode cX2_makeFewest 4 = .ok (.istore_n 2, 1) := by decide +kernel
theorem dX2_makeFewest_5 : decode cX2_makeFewest 5 = .ok (.aload_n 0, 1) := by decide +kernel
theorem dX2_makeFewest_6 : decode cX2_makeFewest 6 = .ok (.invokevirtual 53, 3) := by decide +kernel
theorem dX2_makeFewest_9 : decode cX2_makeFewest 9 = .ok (.istore_n 3, 1) := by decide +kernel
theorem dX2_makeFewest_10 : decode cX2_makeFewest 10 = .ok (.aload_n 0, 1) := by decide +kernel
theorem dX2_makeFewest_11 : decode cX2_makeFewest 11 = .ok (.invokevirtual 56, 3) := by decide +kernel
theorem dX2_makeFewest_14 : decode cX2_makeFewest 14 = .ok (.iconst 1, 1) := by decide +kernel
theorem dX2_makeFewest_15 : decode cX2_makeFewest 15 = .ok (.istore 4, 2) := by decide +kernel
theorem dX2_makeFewest_17 : decode cX2_makeFewest 17 = .ok (.iload 4, 2) := by decide +kernel
theorem dX2_makeFewest_19 : decode cX2_makeFewest 19 = .ok (.bipush 14, 2) := by decide +kernel
theorem dX2_makeFewest_21 : decode cX2_makeFewest 21 = .ok (.if_icmp .gt 44, 3) := by decide +kernel
theorem dX2_makeFewest_24 : decode cX2_makeFewest 24 = .ok (.iload 4, 2) := by decide +kernel
theorem dX2_makeFewest_26 : decode cX2_makeFewest 26 = .ok (.iload_n 2, 1) := by decide +kernel
theorem dX2_makeFewest_27 : decode cX2_makeFewest 27 = .ok (.invokestatic 59, 3) := by decide +kernel
theorem dX2_makeFewest_30 : decode cX2_makeFewest 30 = .ok (.ifCond .eq 35, 3) := by decide +kernel
theorem dX2_makeFewest_33 : decode cX2_makeFewest 33 = .ok (.iload 4, 2) := by decide +kernel
theorem dX2_makeFewest_35 : decode cX2_makeFewest 35 = .ok (.iload_n 3, 1) := by decide +kernel
theorem dX2_makeFewest_36 : decode cX2_makeFewest 36 = .ok (.if_icmp .lt 23, 3) := by decide +kernel
theorem dX2_makeFewest_39 : decode cX2_makeFewest 39 = .ok (.aload_n 0, 1) := by decide +kernel
theorem dX2_makeFewest_40 : decode cX2_makeFewest 40 = .ok (.iload 4, 2) := by decide +kernel
theorem dX2_makeFewest_42 : decode cX2_makeFewest 42 = .ok (.iload_n 2, 1) := by decide +kernel
theorem dX2_makeFewest_43 : decode cX2_makeFewest 43 = .ok (.invokevirtual 63, 3) := by decide +kernel
theorem dX2_makeFewest_46 : decode cX2_makeFewest 46 = .ok (.ifCond .eq 13, 3) := by decide +kernel
theorem dX2_makeFewest_49 : decode cX2_makeFewest 49 = .ok (.aload_n 0, 1) := by decide +kernel
theorem dX2_makeFewest_50 : decode cX2_makeFewest 50 = .ok (.aload_n 1, 1) := by decide +kernel
theorem dX2_makeFewest_51 : decode cX2_makeFewest 51 = .ok (.iload 4, 2) := by decide +kernel
theorem dX2_makeFewest_53 : decode cX2_makeFewest 53 = .ok (.iload_n 2, 1) := by decide +kernel
theorem dX2_makeFewest_54 : decode cX2_makeFewest 54 = .ok (.invokevirtual 66, 3) := by decide +kernel
theorem dX2_makeFewest_57 : decode cX2_makeFewest 57 = .ok (.iconst 1, 1) := by decide +kernel
theorem dX2_makeFewest_58 : decode cX2_makeFewest 58 = .ok (.ireturn, 1) := by decide +kernel
theorem dX2_makeFewest_59 : decode cX2_makeFewest 59 = .ok (.iinc 4 1, 3) := by decide +kernel
theorem dX2_makeFewest_62 : decode cX2_makeFewest 62 = .ok (.goto (-45), 3) := by decide +kernel
theorem dX2_makeFewest_65 : decode cX2_makeFewest 65 = .ok (.iconst 0, 1) := by decide +kernel
theorem dX2_makeFewest_66 : decode cX2_makeFewest 66 = .ok (.ireturn, 1) := by decide +kernel
def f_Known_makeFewest_b59 (x4 : Int32) (kh : Int32 → MI → MJ → Prop) (I : MI) (J : MJ) : Prop :=
  ∀ t59 : Int32, t59 = x4 + 1 → kh t59 I J
def f_Known_makeFewest_L17 (x2 : Int32) (x3 : Int32) (k49 : Int32 → MI → MJ → Prop) (k65 : MI → MJ → Prop) : Nat → Int32 → MI → MJ → Prop
  | 0, _, _, _ => False
  | nf17 + 1, x4, I, J =>
  (if 14 < x4 then k65 I J else f_Known_tablesAreFew x4 x2 I J (fun r27 I27 J27 => (if r27 = 0 then k65 I27 J27 else (if x4 < x3 then f_Known_makeFewest_b59 x4 (f_Known_makeFewest_L17 x2 x3 k49 k65 nf17) I27 J27 else f_Known_findTable x4 x2 I27 J27 (fun r43 I43 J43 => (if r43 = 0 then f_Known_makeFewest_b59 x4 (f_Known_makeFewest_L17 x2 x3 k49 k65 nf17) I43 J43 else k49 x4 I43 J43))))))
def f_Known_makeFewest (x1 : Nat) (I : MI) (J : MJ) (Q : Int32 → MI → MJ → Prop) : Prop :=
  f_Known_signsUsed I J (fun r1 I1 J1 => f_Known_unlikeAnswers I1 J1 (fun r6 I6 J6 => f_Known_sortWords I6 J6 (fun I11 J11 => ∃ n, f_Known_makeFewest_L17 r1 r6 (fun (z49_x4 : Int32) (I : MI) (J : MJ) => f_Known_writeTable x1 z49_x4 r1 I J (fun I54 J54 => Q 1 I54 J54)) (fun (I : MI) (J : MJ) => Q 0 I J) n 1 I11 J11)))
set_option maxRecDepth 100000 in
set_option maxHeartbeats 4000000 in
theorem w_Known_makeFewest_b59 {Γ : Ctx} {Q : Int32 → MI → MJ → Prop} {x1 : Nat} {x2 : Int32} {x3 : Int32} {x4 : Int32} {kh : Int32 → MI → MJ → Prop} (X : Cx Γ cX2_makeFewest 5 RX2 4) (Y : Rt Γ (Pi Q) (Option.some Jvm.ClassFile.FieldType.boolean)) (hx1 : okM x1) (hkh : ∀ (x4 : Int32) (I : MI) (J : MJ), kh x4 I J → Wp Γ 5 17 [(0, .ref (ad Γ 52)), (1, .ref (ad Γ x1)), (2, .int x2), (3, .int x3), (4, .int x4)] [] I J) {I : MI} {J : MJ} (h : f_Known_makeFewest_b59 x4 kh I J) : Wp Γ 5 59 [(0, .ref (ad Γ 52)), (1, .ref (ad Γ x1)), (2, .int x2), (3, .int x3), (4, .int x4)] [] I J := by
  unfold f_Known_makeFewest_b59 at h
  obtain ⟨t59, et59⟩ : ∃ y : Int32, y = x4 + 1 := ⟨_, rfl⟩
  have h := h t59 et59
  refine wp_iinc (L' := [(4, .int t59), (0, .ref (ad Γ 52)), (1, .ref (ad Γ x1)), (2, .int x2), (3, .int x3)]) X dX2_makeFewest_59 4 rfl (ii_1 et59) (by decide) rfl ?_
  refine wp_goto (tgt := 17) X dX2_makeFewest_62 (by decide) ?_
  refine wp_sub X [1, 2, 3, 4, 0] rfl ?_
  exact hkh _ _ _ h

set_option maxRecDepth 100000 in
set_option maxHeartbeats 4000000 in
theorem w_Known_makeFewest_L17 {Γ : Ctx} {Q : Int32 → MI → MJ → Prop} {x1 : Nat} {x2 : Int32} {x3 : Int32} {k49 : Int32 → MI → MJ → Prop} {k65 : MI → MJ → Prop} (X : Cx Γ cX2_makeFewest 5 RX2 4) (Y : Rt Γ (Pi Q) (Option.some Jvm.ClassFile.FieldType.boolean)) (hx1 : okM x1) (hk49 : ∀ (x4 : Int32) (I : MI) (J : MJ), k49 x4 I J → Wp Γ 5 49 [(0, .ref (ad Γ 52)), (1, .ref (ad Γ x1)), (2, .int x2), (4, .int x4)] [] I J) (hk65 : ∀ (I : MI) (J : MJ), k65 I J → Wp Γ 5 65 [] [] I J) : ∀ (n : Nat) (x4 : Int32) (I : MI) (J : MJ), f_Known_makeFewest_L17 x2 x3 k49 k65 n x4 I J → Wp Γ 5 17 [(0, .ref (ad Γ 52)), (1, .ref (ad Γ x1)), (2, .int x2), (3, .int x3), (4, .int x4)] [] I J := by
  intro n
  induction n with
  | zero => intro x4 I J h; exact absurd h (by simp [f_Known_makeFewest_L17])
  | succ n ih =>
  intro x4 I J h
  unfold f_Known_makeFewest_L17 at h
  refine wp_iload X dX2_makeFewest_17 4 rfl ?_
  refine wp_bipush X dX2_makeFewest_19 bi_14 ?_
  refine wp_icmp_gt (tgt := 65) X dX2_makeFewest_21 (by decide) (fun hc => ?_) (fun hc => ?_)
  · have h := ite_t h hc
    refine wp_sub X [] rfl ?_
    exact hk65 _ _ h
  · have h := ite_f h hc
    refine wp_iload X dX2_makeFewest_24 4 rfl ?_
    refine wp_iload_n X dX2_makeFewest_26 2 rfl ?_
    refine cs_Known_tablesAreFew X dX2_makeFewest_27 ml_X2_59  h (Nat.le_of_ble_eq_true rfl) (by decide) (fun r27 I27 J27 h => ?_)
    refine wp_if_eq (tgt := 65) X dX2_makeFewest_30 (by decide) (fun hc => ?_) (fun hc => ?_)
    · have h := ite_t h hc
      refine wp_sub X [] rfl ?_
      exact hk65 _ _ h
    · have h := ite_f h hc
      refine wp_iload X dX2_makeFewest_33 4 rfl ?_
      refine wp_iload_n X dX2_makeFewest_35 3 rfl ?_
      refine wp_icmp_lt (tgt := 59) X dX2_makeFewest_36 (by decide) (fun hc => ?_) (fun hc => ?_)
      · have h := ite_t h hc
        exact w_Known_makeFewest_b59 X Y hx1 ih h
      · have h := ite_f h hc
        refine wp_aload_n X dX2_makeFewest_39 0 rfl ?_
        refine wp_iload X dX2_makeFewest_40 4 rfl ?_
        refine wp_iload_n X dX2_makeFewest_42 2 rfl ?_
        refine cv_Known_findTable X dX2_makeFewest_43 ml_X2_63  h (Nat.le_of_ble_eq_true rfl) (by decide) (fun r43 I43 J43 h => ?_)
        refine wp_if_eq (tgt := 59) X dX2_makeFewest_46 (by decide) (fun hc => ?_) (fun hc => ?_)
        · have h := ite_t h hc
          exact w_Known_makeFewest_b59 X Y hx1 ih h
        · have h := ite_f h hc
          refine wp_sub X [0, 1, 2, 4] rfl ?_
          exact hk49 _ _ _ h

set_option maxRecDepth 100000 in
set_option maxHeartbeats 4000000 in
theorem w_Known_makeFewest_b0 {Γ : Ctx} {Q : Int32 → MI → MJ → Prop} {x1 : Nat}  (X : Cx Γ cX2_makeFewest 5 RX2 4) (Y : Rt Γ (Pi Q) (Option.some Jvm.ClassFile.FieldType.boolean)) (hx1 : okM x1)  {I : MI} {J : MJ} (h : f_Known_makeFewest x1 I J Q) : Wp Γ 5 0 [(0, .ref (ad Γ 52)), (1, .ref (ad Γ x1))] [] I J := by
  unfold f_Known_makeFewest at h
  refine wp_aload_n X dX2_makeFewest_0 0 rfl ?_
  refine cv_Known_signsUsed X dX2_makeFewest_1 ml_X2_49  h (Nat.le_of_ble_eq_true rfl) (by decide) (fun r1 I1 J1 h => ?_)
  refine wp_istore_n (L' := [(2, .int r1), (0, .ref (ad Γ 52)), (1, .ref (ad Γ x1))]) X dX2_makeFewest_4 rfl (by decide) rfl ?_
  refine wp_aload_n X dX2_makeFewest_5 1 rfl ?_
  refine cv_Known_unlikeAnswers X dX2_makeFewest_6 ml_X2_53  h (Nat.le_of_ble_eq_true rfl) (by decide) (fun r6 I6 J6 h => ?_)
  refine wp_istore_n (L' := [(3, .int r6), (2, .int r1), (0, .ref (ad Γ 52)), (1, .ref (ad Γ x1))]) X dX2_makeFewest_9 rfl (by decide) rfl ?_
  refine wp_aload_n X dX2_makeFewest_10 2 rfl ?_
  refine cv_Known_sortWords X dX2_makeFewest_11 ml_X2_56  h (Nat.le_of_ble_eq_true rfl) (by decide) (fun I11 J11 h => ?_)
  refine wp_iconst X dX2_makeFewest_14 ic_1 ?_
  refine wp_istore (L' := [(4, .int 1), (3, .int r6), (2, .int r1), (0, .ref (ad Γ 52)), (1, .ref (ad Γ x1))]) X dX2_makeFewest_15 (by decide) rfl ?_
  obtain ⟨n, h⟩ := h
  refine wp_sub X [3, 4, 2, 1, 0] rfl ?_
  refine w_Known_makeFewest_L17 X Y hx1 ?_ ?_ n _ _ _ h
  · intro z49_x4 I J h
    refine wp_aload_n X dX2_makeFewest_49 0 rfl ?_
    refine wp_aload_n X dX2_makeFewest_50 1 rfl ?_
    refine wp_iload X dX2_makeFewest_51 3 rfl ?_
    refine wp_iload_n X dX2_makeFewest_53 2 rfl ?_
    refine cv_Known_writeTable X dX2_makeFewest_54 ml_X2_66 hx1 h (Nat.le_of_ble_eq_true rfl) (by decide) (fun I54 J54 h => ?_)
    refine wp_iconst X dX2_makeFewest_57 ic_1 ?_
    exact wp_zret X Y dX2_makeFewest_58 (by decide) ⟨_, rfl, h⟩
  · intro I J h
    refine wp_iconst X dX2_makeFewest_65 ic_0 ?_
    exact wp_zret X Y dX2_makeFewest_66 (by decide) ⟨_, rfl, h⟩

theorem c_Known_makeFewest {l : Launch} {g : GE} (hg : Inj g) {I : MI} {J : MJ} {Q : Int32 → MI → MJ → Prop} {x1 : Nat} (hx1 : okM x1) (h : f_Known_makeFewest x1 I J Q) : Cm l g yX2_makeFewest cX2_makeFewest 5 (Option.some Jvm.ClassFile.FieldType.boolean) 4 [.ref (g.1 52), .ref (g.1 x1)] I J (Pi Q) := by
  refine Cm.of (As := fun ad => [.ref (ad 52), .ref (ad x1)]) hg pn_X2 (Nat.le_of_ble_eq_true rfl) ?_
  exact (fun Γ _ _ X Y => w_Known_makeFewest_b0 X Y hx1 h)
theorem cv_Known_makeFewest {Γ : Ctx} {cc : ByteArray} {nL d pc index : Nat} {own : String} {L : List (Nat × Value)} {rest : List Value} {I : MI} {J : MJ} {Q : Int32 → MI → MJ → Prop} {x1 : Nat} (X : Cx Γ cc nL own d) (hd : decode cc pc = .ok (.invokevirtual index, 3)) (hlink : Cond.methodLink own index yX2_makeFewest ∈ TT) (hx1 : okM x1) (h : f_Known_makeFewest x1 I J Q) (hrest : (rest.map fun v => v.category).sum ≤ 8) (hdd : 4 + 1 ≤ d) (kk : ∀ (r : Int32) (I' : MI) (J' : MJ), Q r I' J' → Wp Γ nL (pc + 3) L (.int r :: rest) I' J') : Wp Γ nL pc L (.ref (ad Γ x1) :: .ref (ad Γ 52) :: rest) I J :=
  wp_callV (As := [.ref (ad Γ x1)]) (rest := rest) (T := TX2) (N := 8) X hd hlink mv_X2_makeFewest sh_52 (by decide) rfl (c_Known_makeFewest X.inj hx1 h) rfl rfl hrest hdd (fun v I' J' hv => by obtain ⟨r, rfl, hq⟩ := hv; exact kk r I' J' hq)
theorem dX10_fewest_0 : decode cX10_fewest 0 = .ok (.iload_n 1, 1) := by decide +kernel
theorem dX10_fewest_1 : decode cX10_fewest 1 = .ok (.invokestatic 69, 3) := by decide +kernel
theorem dX10_fewest_4 : decode cX10_fewest 4 = .ok (.istore_n 2, 1) := by decide +kernel
theorem dX10_fewest_5 : decode cX10_fewest 5 = .ok (.iload_n 2, 1) := by decide +kernel
theorem dX10_fewest_6 : decode cX10_fewest 6 = .ok (.ifCond .ne 15, 3) := by decide +kernel
theorem dX10_fewest_9 : decode cX10_fewest 9 = .ok (.aload_n 0, 1) := by decide +kernel
theorem dX10_fewest_10 : decode cX10_fewest 10 = .ok (.getfield 53, 3) := by decide +kernel
theorem dX10_fewest_13 : decode cX10_fewest 13 = .ok (.getfield 290, 3) := by decide +kernel
theorem dX10_fewest_16 : decode cX10_fewest 16 = .ok (.ifCond .ne 5, 3) := by decide +kernel
theorem dX10_fewest_19 : decode cX10_fewest 19 = .ok (.iconst 1, 1) := by decide +kernel
theorem dX10_fewest_20 : decode cX10_fewest 20 = .ok (.istore_n 2, 1) := by decide +kernel
theorem dX10_fewest_21 : decode cX10_fewest 21 = .ok (.iload_n 2, 1) := by decide +kernel
theorem dX10_fewest_22 : decode cX10_fewest 22 = .ok (.ifCond .ne 19, 3) := by decide +kernel
theorem dX10_fewest_25 : decode cX10_fewest 25 = .ok (.aload_n 0, 1) := by decide +kernel
theorem dX10_fewest_26 : decode cX10_fewest 26 = .ok (.getfield 53, 3) := by decide +kernel
theorem dX10_fewest_29 : decode cX10_fewest 29 = .ok (.aload_n 0, 1) := by decide +kernel
theorem dX10_fewest_30 : decode cX10_fewest 30 = .ok (.getfield 60, 3) := by decide +kernel
theorem dX10_fewest_33 : decode cX10_fewest 33 = .ok (.invokevirtual 297, 3) := by decide +kernel
theorem dX10_fewest_36 : decode cX10_fewest 36 = .ok (.ifCond .ne 5, 3) := by decide +kernel
theorem dX10_fewest_39 : decode cX10_fewest 39 = .ok (.iconst 5, 1) := by decide +kernel
theorem dX10_fewest_40 : decode cX10_fewest 40 = .ok (.istore_n 2, 1) := by decide +kernel
theorem dX10_fewest_41 : decode cX10_fewest 41 = .ok (.iload_n 2, 1) := by decide +kernel
theorem dX10_fewest_42 : decode cX10_fewest 42 = .ok (.ifCond .eq 9, 3) := by decide +kernel
theorem dX10_fewest_45 : decode cX10_fewest 45 = .ok (.aload_n 0, 1) := by decide +kernel
theorem dX10_fewest_46 : decode cX10_fewest 46 = .ok (.iload_n 2, 1) := by decide +kernel
theorem dX10_fewest_47 : decode cX10_fewest 47 = .ok (.invokevirtual 73, 3) := by decide +kernel
theorem dX10_fewest_50 : decode cX10_fewest 50 = .ok (.ireturn, 1) := by decide +kernel
theorem dX10_fewest_51 : decode cX10_fewest 51 = .ok (.aload_n 0, 1) := by decide +kernel
theorem dX10_fewest_52 : decode cX10_fewest 52 = .ok (.aload_n 0, 1) := by decide +kernel
theorem dX10_fewest_53 : decode cX10_fewest 53 = .ok (.getfield 60, 3) := by decide +kernel
theorem dX10_fewest_56 : decode cX10_fewest 56 = .ok (.iload_n 1, 1) := by decide +kernel
theorem dX10_fewest_57 : decode cX10_fewest 57 = .ok (.invokevirtual 209, 3) := by decide +kernel
theorem dX10_fewest_60 : decode cX10_fewest 60 = .ok (.ireturn, 1) := by decide +kernel
def f_School_fewest_b41 (x1 : Int32) (x2 : Int32) (Q : Int32 → MI → MJ → Prop) (I : MI) (J : MJ) : Prop :=
  (if x2 = 0 then f_School_layMachine 60 x1 I J (fun r57 I57 J57 => Q r57 I57 J57) else f_School_refuse x2 I J (fun r47 I47 J47 => Q r47 I47 J47))
def f_School_fewest_b21 (x1 : Int32) (x2 : Int32) (Q : Int32 → MI → MJ → Prop) (I : MI) (J : MJ) : Prop :=
  (if x2 = 0 then f_Known_makeFewest 60 I J (fun r33 I33 J33 => (if r33 = 0 then f_School_fewest_b41 x1 5 Q I33 J33 else f_School_fewest_b41 x1 x2 Q I33 J33)) else f_School_fewest_b41 x1 x2 Q I J)
def f_School_fewest (x1 : Int32) (I : MI) (J : MJ) (Q : Int32 → MI → MJ → Prop) : Prop :=
  f_School_placeFault x1 I J (fun r1 I1 J1 => (if r1 = 0 then (if (I1 52 0) = 0 then f_School_fewest_b21 x1 1 Q I1 J1 else f_School_fewest_b21 x1 r1 Q I1 J1) else f_School_fewest_b21 x1 r1 Q I1 J1))
set_option maxRecDepth 100000 in
set_option maxHeartbeats 4000000 in
theorem w_School_fewest_b41 {Γ : Ctx} {Q : Int32 → MI → MJ → Prop} {x1 : Int32} {x2 : Int32}  (X : Cx Γ cX10_fewest 3 RX10 5) (Y : Rt Γ (Pi Q) (Option.some Jvm.ClassFile.FieldType.int))   {I : MI} {J : MJ} (h : f_School_fewest_b41 x1 x2 Q I J) : Wp Γ 3 41 [(0, .ref (ad Γ 0)), (1, .int x1), (2, .int x2)] [] I J := by
  unfold f_School_fewest_b41 at h
  refine wp_iload_n X dX10_fewest_41 2 rfl ?_
  refine wp_if_eq (tgt := 51) X dX10_fewest_42 (by decide) (fun hc => ?_) (fun hc => ?_)
  · have h := ite_t h hc
    refine wp_aload_n X dX10_fewest_51 0 rfl ?_
    refine wp_aload_n X dX10_fewest_52 0 rfl ?_
    refine gf_X10_60 (o' := 60) X sh_0 rfl dX10_fewest_53 ?_
    refine wp_iload_n X dX10_fewest_56 1 rfl ?_
    refine cv_School_layMachine X dX10_fewest_57 ml_X10_209 okM_60 h (Nat.le_of_ble_eq_true rfl) (by decide) (fun r57 I57 J57 h => ?_)
    exact wp_iret X Y dX10_fewest_60 ⟨_, rfl, h⟩
  · have h := ite_f h hc
    refine wp_aload_n X dX10_fewest_45 0 rfl ?_
    refine wp_iload_n X dX10_fewest_46 2 rfl ?_
    refine cv_School_refuse X dX10_fewest_47 ml_X10_73  h (Nat.le_of_ble_eq_true rfl) (by decide) (fun r47 I47 J47 h => ?_)
    exact wp_iret X Y dX10_fewest_50 ⟨_, rfl, h⟩

set_option maxRecDepth 100000 in
set_option maxHeartbeats 4000000 in
theorem w_School_fewest_b21 {Γ : Ctx} {Q : Int32 → MI → MJ → Prop} {x1 : Int32} {x2 : Int32}  (X : Cx Γ cX10_fewest 3 RX10 5) (Y : Rt Γ (Pi Q) (Option.some Jvm.ClassFile.FieldType.int))   {I : MI} {J : MJ} (h : f_School_fewest_b21 x1 x2 Q I J) : Wp Γ 3 21 [(0, .ref (ad Γ 0)), (1, .int x1), (2, .int x2)] [] I J := by
  unfold f_School_fewest_b21 at h
  refine wp_iload_n X dX10_fewest_21 2 rfl ?_
  refine wp_if_ne (tgt := 41) X dX10_fewest_22 (by decide) (fun hc => ?_) (fun hc => ?_)
  · have h := ite_f h hc
    exact w_School_fewest_b41 X Y  h
  · have h := ite_t h hc
    refine wp_aload_n X dX10_fewest_25 0 rfl ?_
    refine gf_X10_53 (o' := 52) X sh_0 rfl dX10_fewest_26 ?_
    refine wp_aload_n X dX10_fewest_29 0 rfl ?_
    refine gf_X10_60 (o' := 60) X sh_0 rfl dX10_fewest_30 ?_
    refine cv_Known_makeFewest X dX10_fewest_33 ml_X10_297 okM_60 h (Nat.le_of_ble_eq_true rfl) (by decide) (fun r33 I33 J33 h => ?_)
    refine wp_if_ne (tgt := 41) X dX10_fewest_36 (by decide) (fun hc => ?_) (fun hc => ?_)
    · have h := ite_f h hc
      exact w_School_fewest_b41 X Y  h
    · have h := ite_t h hc
      refine wp_iconst X dX10_fewest_39 ic_5 ?_
      refine wp_istore_n (L' := [(2, .int 5), (0, .ref (ad Γ 0)), (1, .int x1)]) X dX10_fewest_40 rfl (by decide) rfl ?_
      refine wp_sub X [1, 2, 0] rfl ?_
      exact w_School_fewest_b41 X Y  h

set_option maxRecDepth 100000 in
set_option maxHeartbeats 4000000 in
theorem w_School_fewest_b0 {Γ : Ctx} {Q : Int32 → MI → MJ → Prop} {x1 : Int32}  (X : Cx Γ cX10_fewest 3 RX10 5) (Y : Rt Γ (Pi Q) (Option.some Jvm.ClassFile.FieldType.int))   {I : MI} {J : MJ} (h : f_School_fewest x1 I J Q) : Wp Γ 3 0 [(0, .ref (ad Γ 0)), (1, .int x1)] [] I J := by
  unfold f_School_fewest at h
  refine wp_iload_n X dX10_fewest_0 1 rfl ?_
  refine cs_School_placeFault X dX10_fewest_1 ml_X10_69  h (Nat.le_of_ble_eq_true rfl) (by decide) (fun r1 I1 J1 h => ?_)
  refine wp_istore_n (L' := [(2, .int r1), (0, .ref (ad Γ 0)), (1, .int x1)]) X dX10_fewest_4 rfl (by decide) rfl ?_
  refine wp_iload_n X dX10_fewest_5 0 rfl ?_
  refine wp_if_ne (tgt := 21) X dX10_fewest_6 (by decide) (fun hc => ?_) (fun hc => ?_)
  · have h := ite_f h hc
    refine wp_sub X [1, 2, 0] rfl ?_
    exact w_School_fewest_b21 X Y  h
  · have h := ite_t h hc
    refine wp_aload_n X dX10_fewest_9 1 rfl ?_
    refine gf_X10_53 (o' := 52) X sh_0 rfl dX10_fewest_10 ?_
    refine gf_X10_290 X sh_52 dX10_fewest_13 ?_
    refine wp_if_ne (tgt := 21) X dX10_fewest_16 (by decide) (fun hc => ?_) (fun hc => ?_)
    · have h := ite_f h hc
      refine wp_sub X [1, 2, 0] rfl ?_
      exact w_School_fewest_b21 X Y  h
    · have h := ite_t h hc
      refine wp_iconst X dX10_fewest_19 ic_1 ?_
      refine wp_istore_n (L' := [(2, .int 1), (0, .ref (ad Γ 0)), (1, .int x1)]) X dX10_fewest_20 rfl (by decide) rfl ?_
      refine wp_sub X [1, 2, 0] rfl ?_
      exact w_School_fewest_b21 X Y  h

theorem c_School_fewest {l : Launch} {g : GE} (hg : Inj g) {I : MI} {J : MJ} {Q : Int32 → MI → MJ → Prop} {x1 : Int32}  (h : f_School_fewest x1 I J Q) : Cm l g yX10_fewest cX10_fewest 3 (Option.some Jvm.ClassFile.FieldType.int) 5 [.ref (g.1 0), .int x1] I J (Pi Q) := by
  refine Cm.of (As := fun ad => [.ref (ad 0), .int x1]) hg pn_X10 (Nat.le_of_ble_eq_true rfl) ?_
  exact (fun Γ _ _ X Y => w_School_fewest_b0 X Y  h)
theorem cv_School_fewest {Γ : Ctx} {cc : ByteArray} {nL d pc index : Nat} {own : String} {L : List (Nat × Value)} {rest : List Value} {I : MI} {J : MJ} {Q : Int32 → MI → MJ → Prop} {x1 : Int32} (X : Cx Γ cc nL own d) (hd : decode cc pc = .ok (.invokevirtual index, 3)) (hlink : Cond.methodLink own index yX10_fewest ∈ TT)  (h : f_School_fewest x1 I J Q) (hrest : (rest.map fun v => v.category).sum ≤ 8) (hdd : 5 + 1 ≤ d) (kk : ∀ (r : Int32) (I' : MI) (J' : MJ), Q r I' J' → Wp Γ nL (pc + 3) L (.int r :: rest) I' J') : Wp Γ nL pc L (.int x1 :: .ref (ad Γ 0) :: rest) I J :=
  wp_callV (As := [.int x1]) (rest := rest) (T := TX10) (N := 9) X hd hlink mv_X10_fewest sh_0 (by decide) rfl (c_School_fewest X.inj  h) rfl rfl hrest hdd (fun v I' J' hv => by obtain ⟨r, rfl, hq⟩ := hv; exact kk r I' J' hq)
theorem dX2_firstUnfit_0 : decode cX2_firstUnfit 0 = .ok (.iconst 0, 1) := by decide +kernel
theorem dX2_firstUnfit_1 : decode cX2_firstUnfit 1 = .ok (.istore_n 2, 1) := by decide +kernel
theorem dX2_firstUnfit_2 : decode cX2_firstUnfit 2 = .ok (.iload_n 2, 1) := by decide +kernel
theorem dX2_firstUnfit_3 : decode cX2_firstUnfit 3 = .ok (.aload_n 0, 1) := by decide +kernel
theorem dX2_firstUnfit_4 : decode cX2_firstUnfit 4 = .ok (.getfield 34, 3) := by decide +kernel
theorem dX2_firstUnfit_7 : decode cX2_firstUnfit 7 = .ok (.if_icmp .ge 30, 3) := by decide +kernel
theorem dX2_firstUnfit_10 : decode cX2_firstUnfit 10 = .ok (.aload_n 1, 1) := by decide +kernel
theorem dX2_firstUnfit_11 : decode cX2_firstUnfit 11 = .ok (.aload_n 0, 1) := by decide +kernel
theorem dX2_firstUnfit_12 : decode cX2_firstUnfit 12 = .ok (.getfield 9, 3) := by decide +kernel
theorem dX2_firstUnfit_15 : decode cX2_firstUnfit 15 = .ok (.iload_n 2, 1) := by decide +kernel
theorem dX2_firstUnfit_16 : decode cX2_firstUnfit 16 = .ok (.laload, 1) := by decide +kernel
theorem dX2_firstUnfit_17 : decode cX2_firstUnfit 17 = .ok (.invokevirtual 44, 3) := by decide +kernel
theorem dX2_firstUnfit_20 : decode cX2_firstUnfit 20 = .ok (.aload_n 0, 1) := by decide +kernel
theorem dX2_firstUnfit_21 : decode cX2_firstUnfit 21 = .ok (.getfield 15, 3) := by decide +kernel
theorem dX2_firstUnfit_24 : decode cX2_firstUnfit 24 = .ok (.iload_n 2, 1) := by decide +kernel
theorem dX2_firstUnfit_25 : decode cX2_firstUnfit 25 = .ok (.iaload, 1) := by decide +kernel
theorem dX2_firstUnfit_26 : decode cX2_firstUnfit 26 = .ok (.if_icmp .eq 5, 3) := by decide +kernel
theorem dX2_firstUnfit_29 : decode cX2_firstUnfit 29 = .ok (.iload_n 2, 1) := by decide +kernel
theorem dX2_firstUnfit_30 : decode cX2_firstUnfit 30 = .ok (.ireturn, 1) := by decide +kernel
theorem dX2_firstUnfit_31 : decode cX2_firstUnfit 31 = .ok (.iinc 2 1, 3) := by decide +kernel
theorem dX2_firstUnfit_34 : decode cX2_firstUnfit 34 = .ok (.goto (-32), 3) := by decide +kernel
theorem dX2_firstUnfit_37 : decode cX2_firstUnfit 37 = .ok (.iconst (-1), 1) := by decide +kernel
theorem dX2_firstUnfit_38 : decode cX2_firstUnfit 38 = .ok (.ireturn, 1) := by decide +kernel
def f_Known_firstUnfit_L2 (x1 : Nat) (k29 : Int32 → MI → MJ → Prop) (k37 : MI → MJ → Prop) : Nat → Int32 → MI → MJ → Prop
  | 0, _, _, _ => False
  | nf2 + 1, x2, I, J =>
  (if (I 52 0) ≤ x2 then k37 I J else vp_in x2 12 ∧ f_Machine_answerTo x1 (J 53 x2.toNatClampNeg) I J (fun r17 I17 J17 => vp_in x2 12 ∧ (if r17 = (I17 54 x2.toNatClampNeg) then ∀ t31 : Int32, t31 = x2 + 1 → f_Known_firstUnfit_L2 x1 k29 k37 nf2 t31 I17 J17 else k29 x2 I17 J17)))
def f_Known_firstUnfit (x1 : Nat) (I : MI) (J : MJ) (Q : Int32 → MI → MJ → Prop) : Prop :=
  ∃ n, f_Known_firstUnfit_L2 x1 (fun (z29_x2 : Int32) (I : MI) (J : MJ) => Q z29_x2 I J) (fun (I : MI) (J : MJ) => Q (-1) I J) n 0 I J
set_option maxRecDepth 100000 in
set_option maxHeartbeats 4000000 in
theorem w_Known_firstUnfit_L2 {Γ : Ctx} {Q : Int32 → MI → MJ → Prop} {x1 : Nat} {k29 : Int32 → MI → MJ → Prop} {k37 : MI → MJ → Prop} (X : Cx Γ cX2_firstUnfit 3 RX2 4) (Y : Rt Γ (Pi Q) (Option.some Jvm.ClassFile.FieldType.int)) (hx1 : okM x1) (hk29 : ∀ (x2 : Int32) (I : MI) (J : MJ), k29 x2 I J → Wp Γ 3 29 [(2, .int x2)] [] I J) (hk37 : ∀ (I : MI) (J : MJ), k37 I J → Wp Γ 3 37 [] [] I J) : ∀ (n : Nat) (x2 : Int32) (I : MI) (J : MJ), f_Known_firstUnfit_L2 x1 k29 k37 n x2 I J → Wp Γ 3 2 [(0, .ref (ad Γ 52)), (1, .ref (ad Γ x1)), (2, .int x2)] [] I J := by
  intro n
  induction n with
  | zero => intro x2 I J h; exact absurd h (by simp [f_Known_firstUnfit_L2])
  | succ n ih =>
  intro x2 I J h
  unfold f_Known_firstUnfit_L2 at h
  refine wp_iload_n X dX2_firstUnfit_2 2 rfl ?_
  refine wp_aload_n X dX2_firstUnfit_3 0 rfl ?_
  refine gf_X2_34 X sh_52 dX2_firstUnfit_4 ?_
  refine wp_icmp_ge (tgt := 37) X dX2_firstUnfit_7 (by decide) (fun hc => ?_) (fun hc => ?_)
  · have h := ite_t h hc
    refine wp_sub X [] rfl ?_
    exact hk37 _ _ h
  · have h := ite_f h hc
    refine wp_aload_n X dX2_firstUnfit_10 1 rfl ?_
    refine wp_aload_n X dX2_firstUnfit_11 0 rfl ?_
    refine gf_X2_9 (o' := 53) X sh_52 rfl dX2_firstUnfit_12 ?_
    refine wp_iload_n X dX2_firstUnfit_15 2 rfl ?_
    obtain ⟨hb16, h⟩ := h
    refine wp_lald X sh_53 hb16 dX2_firstUnfit_16 ?_
    refine cv_Machine_answerTo X dX2_firstUnfit_17 ml_X2_44 hx1 h (Nat.le_of_ble_eq_true rfl) (by decide) (fun r17 I17 J17 h => ?_)
    refine wp_aload_n X dX2_firstUnfit_20 0 rfl ?_
    refine gf_X2_15 (o' := 54) X sh_52 rfl dX2_firstUnfit_21 ?_
    refine wp_iload_n X dX2_firstUnfit_24 2 rfl ?_
    obtain ⟨hb25, h⟩ := h
    refine wp_iald X sh_54 hb25 dX2_firstUnfit_25 ?_
    refine wp_icmp_eq (tgt := 31) X dX2_firstUnfit_26 (by decide) (fun hc => ?_) (fun hc => ?_)
    · have h := ite_t h hc
      obtain ⟨t31, et31⟩ : ∃ y : Int32, y = x2 + 1 := ⟨_, rfl⟩
      have h := h t31 et31
      refine wp_iinc (L' := [(2, .int t31), (0, .ref (ad Γ 52)), (1, .ref (ad Γ x1))]) X dX2_firstUnfit_31 2 rfl (ii_1 et31) (by decide) rfl ?_
      refine wp_goto (tgt := 2) X dX2_firstUnfit_34 (by decide) ?_
      refine wp_sub X [1, 2, 0] rfl ?_
      exact ih _ _ _ h
    · have h := ite_f h hc
      refine wp_sub X [2] rfl ?_
      exact hk29 _ _ _ h

set_option maxRecDepth 100000 in
set_option maxHeartbeats 4000000 in
theorem w_Known_firstUnfit_b0 {Γ : Ctx} {Q : Int32 → MI → MJ → Prop} {x1 : Nat}  (X : Cx Γ cX2_firstUnfit 3 RX2 4) (Y : Rt Γ (Pi Q) (Option.some Jvm.ClassFile.FieldType.int)) (hx1 : okM x1)  {I : MI} {J : MJ} (h : f_Known_firstUnfit x1 I J Q) : Wp Γ 3 0 [(0, .ref (ad Γ 52)), (1, .ref (ad Γ x1))] [] I J := by
  unfold f_Known_firstUnfit at h
  refine wp_iconst X dX2_firstUnfit_0 ic_0 ?_
  refine wp_istore_n (L' := [(2, .int 0), (0, .ref (ad Γ 52)), (1, .ref (ad Γ x1))]) X dX2_firstUnfit_1 rfl (by decide) rfl ?_
  obtain ⟨n, h⟩ := h
  refine wp_sub X [1, 2, 0] rfl ?_
  refine w_Known_firstUnfit_L2 X Y hx1 ?_ ?_ n _ _ _ h
  · intro z29_x2 I J h
    refine wp_iload_n X dX2_firstUnfit_29 0 rfl ?_
    exact wp_iret X Y dX2_firstUnfit_30 ⟨_, rfl, h⟩
  · intro I J h
    refine wp_iconst X dX2_firstUnfit_37 ic_m1 ?_
    exact wp_iret X Y dX2_firstUnfit_38 ⟨_, rfl, h⟩

theorem c_Known_firstUnfit {l : Launch} {g : GE} (hg : Inj g) {I : MI} {J : MJ} {Q : Int32 → MI → MJ → Prop} {x1 : Nat} (hx1 : okM x1) (h : f_Known_firstUnfit x1 I J Q) : Cm l g yX2_firstUnfit cX2_firstUnfit 3 (Option.some Jvm.ClassFile.FieldType.int) 4 [.ref (g.1 52), .ref (g.1 x1)] I J (Pi Q) := by
  refine Cm.of (As := fun ad => [.ref (ad 52), .ref (ad x1)]) hg pn_X2 (Nat.le_of_ble_eq_true rfl) ?_
  exact (fun Γ _ _ X Y => w_Known_firstUnfit_b0 X Y hx1 h)
theorem cv_Known_firstUnfit {Γ : Ctx} {cc : ByteArray} {nL d pc index : Nat} {own : String} {L : List (Nat × Value)} {rest : List Value} {I : MI} {J : MJ} {Q : Int32 → MI → MJ → Prop} {x1 : Nat} (X : Cx Γ cc nL own d) (hd : decode cc pc = .ok (.invokevirtual index, 3)) (hlink : Cond.methodLink own index yX2_firstUnfit ∈ TT) (hx1 : okM x1) (h : f_Known_firstUnfit x1 I J Q) (hrest : (rest.map fun v => v.category).sum ≤ 8) (hdd : 4 + 1 ≤ d) (kk : ∀ (r : Int32) (I' : MI) (J' : MJ), Q r I' J' → Wp Γ nL (pc + 3) L (.int r :: rest) I' J') : Wp Γ nL pc L (.ref (ad Γ x1) :: .ref (ad Γ 52) :: rest) I J :=
  wp_callV (As := [.ref (ad Γ x1)]) (rest := rest) (T := TX2) (N := 8) X hd hlink mv_X2_firstUnfit sh_52 (by decide) rfl (c_Known_firstUnfit X.inj hx1 h) rfl rfl hrest hdd (fun v I' J' hv => by obtain ⟨r, rfl, hq⟩ := hv; exact kk r I' J' hq)
theorem dX10_fits_0 : decode cX10_fits 0 = .ok (.aload_n 0, 1) := by decide +kernel
theorem dX10_fits_1 : decode cX10_fits 1 = .ok (.iload_n 1, 1) := by decide +kernel
theorem dX10_fits_2 : decode cX10_fits 2 = .ok (.invokevirtual 162, 3) := by decide +kernel
theorem dX10_fits_5 : decode cX10_fits 5 = .ok (.astore_n 2, 1) := by decide +kernel
theorem dX10_fits_6 : decode cX10_fits 6 = .ok (.aload_n 2, 1) := by decide +kernel
theorem dX10_fits_7 : decode cX10_fits 7 = .ok (.ifnonnull 8, 3) := by decide +kernel
theorem dX10_fits_10 : decode cX10_fits 10 = .ok (.bipush (-2), 2) := by decide +kernel
theorem dX10_fits_12 : decode cX10_fits 12 = .ok (.goto 11, 3) := by decide +kernel
theorem dX10_fits_15 : decode cX10_fits 15 = .ok (.aload_n 0, 1) := by decide +kernel
theorem dX10_fits_16 : decode cX10_fits 16 = .ok (.getfield 53, 3) := by decide +kernel
theorem dX10_fits_19 : decode cX10_fits 19 = .ok (.aload_n 2, 1) := by decide +kernel
theorem dX10_fits_20 : decode cX10_fits 20 = .ok (.invokevirtual 300, 3) := by decide +kernel
theorem dX10_fits_23 : decode cX10_fits 23 = .ok (.ireturn, 1) := by decide +kernel
def f_School_fits (x1 : Int32) (I : MI) (J : MJ) (Q : Int32 → MI → MJ → Prop) : Prop :=
  f_School_machineAt x1 I J (fun r2 I2 J2 => (match r2 with | none => Q (-2) I2 J2 | some a7 => okM a7 ∧ f_Known_firstUnfit a7 I2 J2 (fun r20 I20 J20 => Q r20 I20 J20)))
set_option maxRecDepth 100000 in
set_option maxHeartbeats 4000000 in
theorem w_School_fits_b0 {Γ : Ctx} {Q : Int32 → MI → MJ → Prop} {x1 : Int32}  (X : Cx Γ cX10_fits 3 RX10 5) (Y : Rt Γ (Pi Q) (Option.some Jvm.ClassFile.FieldType.int))   {I : MI} {J : MJ} (h : f_School_fits x1 I J Q) : Wp Γ 3 0 [(0, .ref (ad Γ 0)), (1, .int x1)] [] I J := by
  unfold f_School_fits at h
  refine wp_aload_n X dX10_fits_0 0 rfl ?_
  refine wp_iload_n X dX10_fits_1 1 rfl ?_
  refine cv_School_machineAt X dX10_fits_2 ml_X10_162  h (Nat.le_of_ble_eq_true rfl) (by decide) (fun r2 I2 J2 h => ?_)
  refine wp_astore_nQ (L' := [(2, rfN (ad Γ) r2), (0, .ref (ad Γ 0)), (1, .int x1)]) X dX10_fits_5 rfl (by decide) rfl ?_
  refine wp_aload_nQ X dX10_fits_6 0 rfl ?_
  refine wp_ifnonnull (q := r2) (tgt := 15) X dX10_fits_7 (by decide) ?_ ?_
  · intro a7 hq; subst hq; obtain ⟨oka7, h⟩ := h
    refine wp_aload_n X dX10_fits_15 1 rfl ?_
    refine gf_X10_53 (o' := 52) X sh_0 rfl dX10_fits_16 ?_
    refine wp_aload_n X dX10_fits_19 0 rfl ?_
    refine cv_Known_firstUnfit X dX10_fits_20 ml_X10_300 oka7 h (Nat.le_of_ble_eq_true rfl) (by decide) (fun r20 I20 J20 h => ?_)
    exact wp_iret X Y dX10_fits_23 ⟨_, rfl, h⟩
  · intro hq; subst hq
    refine wp_bipush X dX10_fits_10 bi_m2 ?_
    refine wp_goto (tgt := 23) X dX10_fits_12 (by decide) ?_
    exact wp_iret X Y dX10_fits_23 ⟨_, rfl, h⟩

theorem c_School_fits {l : Launch} {g : GE} (hg : Inj g) {I : MI} {J : MJ} {Q : Int32 → MI → MJ → Prop} {x1 : Int32}  (h : f_School_fits x1 I J Q) : Cm l g yX10_fits cX10_fits 3 (Option.some Jvm.ClassFile.FieldType.int) 5 [.ref (g.1 0), .int x1] I J (Pi Q) := by
  refine Cm.of (As := fun ad => [.ref (ad 0), .int x1]) hg pn_X10 (Nat.le_of_ble_eq_true rfl) ?_
  exact (fun Γ _ _ X Y => w_School_fits_b0 X Y  h)
theorem cv_School_fits {Γ : Ctx} {cc : ByteArray} {nL d pc index : Nat} {own : String} {L : List (Nat × Value)} {rest : List Value} {I : MI} {J : MJ} {Q : Int32 → MI → MJ → Prop} {x1 : Int32} (X : Cx Γ cc nL own d) (hd : decode cc pc = .ok (.invokevirtual index, 3)) (hlink : Cond.methodLink own index yX10_fits ∈ TT)  (h : f_School_fits x1 I J Q) (hrest : (rest.map fun v => v.category).sum ≤ 8) (hdd : 5 + 1 ≤ d) (kk : ∀ (r : Int32) (I' : MI) (J' : MJ), Q r I' J' → Wp Γ nL (pc + 3) L (.int r :: rest) I' J') : Wp Γ nL pc L (.int x1 :: .ref (ad Γ 0) :: rest) I J :=
  wp_callV (As := [.int x1]) (rest := rest) (T := TX10) (N := 9) X hd hlink mv_X10_fits sh_0 (by decide) rfl (c_School_fits X.inj  h) rfl rfl hrest hdd (fun v I' J' hv => by obtain ⟨r, rfl, hq⟩ := hv; exact kk r I' J' hq)
theorem dX10_blame_0 : decode cX10_blame 0 = .ok (.iload_n 1, 1) := by decide +kernel
theorem dX10_blame_1 : decode cX10_blame 1 = .ok (.invokestatic 69, 3) := by decide +kernel
theorem dX10_blame_4 : decode cX10_blame 4 = .ok (.istore_n 3, 1) := by decide +kernel
theorem dX10_blame_5 : decode cX10_blame 5 = .ok (.iload_n 3, 1) := by decide +kernel
theorem dX10_blame_6 : decode cX10_blame 6 = .ok (.ifCond .eq 9, 3) := by decide +kernel
theorem dX10_blame_9 : decode cX10_blame 9 = .ok (.aload_n 0, 1) := by decide +kernel
theorem dX10_blame_10 : decode cX10_blame 10 = .ok (.iload_n 3, 1) := by decide +kernel
theorem dX10_blame_11 : decode cX10_blame 11 = .ok (.invokevirtual 73, 3) := by decide +kernel
theorem dX10_blame_14 : decode cX10_blame 14 = .ok (.ireturn, 1) := by decide +kernel
theorem dX10_blame_15 : decode cX10_blame 15 = .ok (.aload_n 0, 1) := by decide +kernel
theorem dX10_blame_16 : decode cX10_blame 16 = .ok (.getfield 11, 3) := by decide +kernel
theorem dX10_blame_19 : decode cX10_blame 19 = .ok (.iload_n 1, 1) := by decide +kernel
theorem dX10_blame_20 : decode cX10_blame 20 = .ok (.aaload, 1) := by decide +kernel
theorem dX10_blame_21 : decode cX10_blame 21 = .ok (.iconst 1, 1) := by decide +kernel
theorem dX10_blame_22 : decode cX10_blame 22 = .ok (.putfield 304, 3) := by decide +kernel
theorem dX10_blame_25 : decode cX10_blame 25 = .ok (.aload_n 0, 1) := by decide +kernel
theorem dX10_blame_26 : decode cX10_blame 26 = .ok (.getfield 11, 3) := by decide +kernel
theorem dX10_blame_29 : decode cX10_blame 29 = .ok (.iload_n 1, 1) := by decide +kernel
theorem dX10_blame_30 : decode cX10_blame 30 = .ok (.aaload, 1) := by decide +kernel
theorem dX10_blame_31 : decode cX10_blame 31 = .ok (.iload_n 2, 1) := by decide +kernel
theorem dX10_blame_32 : decode cX10_blame 32 = .ok (.putfield 307, 3) := by decide +kernel
theorem dX10_blame_35 : decode cX10_blame 35 = .ok (.aload_n 0, 1) := by decide +kernel
theorem dX10_blame_36 : decode cX10_blame 36 = .ok (.iconst 0, 1) := by decide +kernel
theorem dX10_blame_37 : decode cX10_blame 37 = .ok (.invokevirtual 86, 3) := by decide +kernel
theorem dX10_blame_40 : decode cX10_blame 40 = .ok (.ireturn, 1) := by decide +kernel
def f_School_blame (x1 : Int32) (x2 : Int32) (I : MI) (J : MJ) (Q : Int32 → MI → MJ → Prop) : Prop :=
  f_School_placeFault x1 I J (fun r1 I1 J1 => (if r1 = 0 then vp_in x1 16 ∧ ∀ I22 : MI, I22 = sI I1 (1 + 64 + 7 * x1.toNatClampNeg) (upd (I1 (1 + 64 + 7 * x1.toNatClampNeg)) 5 1) → vp_in x1 16 ∧ ∀ I32 : MI, I32 = sI I22 (1 + 64 + 7 * x1.toNatClampNeg) (upd (I22 (1 + 64 + 7 * x1.toNatClampNeg)) 6 x2) → f_School_done (0 : Int32) I32 J1 (fun r37 I37 J37 => Q r37 I37 J37) else f_School_refuse r1 I1 J1 (fun r11 I11 J11 => Q r11 I11 J11)))
set_option maxRecDepth 100000 in
set_option maxHeartbeats 4000000 in
theorem w_School_blame_b0 {Γ : Ctx} {Q : Int32 → MI → MJ → Prop} {x1 : Int32} {x2 : Int32}  (X : Cx Γ cX10_blame 4 RX10 2) (Y : Rt Γ (Pi Q) (Option.some Jvm.ClassFile.FieldType.int))   {I : MI} {J : MJ} (h : f_School_blame x1 x2 I J Q) : Wp Γ 4 0 [(0, .ref (ad Γ 0)), (1, .int x1), (2, .int x2)] [] I J := by
  unfold f_School_blame at h
  refine wp_iload_n X dX10_blame_0 1 rfl ?_
  refine cs_School_placeFault X dX10_blame_1 ml_X10_69  h (Nat.le_of_ble_eq_true rfl) (by decide) (fun r1 I1 J1 h => ?_)
  refine wp_istore_n (L' := [(3, .int r1), (0, .ref (ad Γ 0)), (1, .int x1), (2, .int x2)]) X dX10_blame_4 rfl (by decide) rfl ?_
  refine wp_iload_n X dX10_blame_5 0 rfl ?_
  refine wp_if_eq (tgt := 15) X dX10_blame_6 (by decide) (fun hc => ?_) (fun hc => ?_)
  · have h := ite_t h hc
    refine wp_aload_n X dX10_blame_15 1 rfl ?_
    refine gf_X10_11 (o' := 1) X sh_0 rfl dX10_blame_16 ?_
    refine wp_iload_n X dX10_blame_19 2 rfl ?_
    obtain ⟨hb20, h⟩ := h
    refine wp_aald X sh_1 hb20 dX10_blame_20 ?_
    refine wp_iconst X dX10_blame_21 ic_1 ?_
    refine pf_X10_304 X ((okP_at hb20).1) (by decide) dX10_blame_22 (fun I22 eI22 => ?_)
    have h := h I22 eI22
    refine wp_aload_n X dX10_blame_25 1 rfl ?_
    refine gf_X10_11 (o' := 1) X sh_0 rfl dX10_blame_26 ?_
    refine wp_iload_n X dX10_blame_29 2 rfl ?_
    obtain ⟨hb30, h⟩ := h
    refine wp_aald X sh_1 hb30 dX10_blame_30 ?_
    refine wp_iload_n X dX10_blame_31 3 rfl ?_
    refine pf_X10_307 X ((okP_at hb30).1) dX10_blame_32 (fun I32 eI32 => ?_)
    have h := h I32 eI32
    refine wp_aload_n X dX10_blame_35 1 rfl ?_
    refine wp_iconst X dX10_blame_36 ic_0 ?_
    refine cv_School_done X dX10_blame_37 ml_X10_86  h (Nat.le_of_ble_eq_true rfl) (by decide) (fun r37 I37 J37 h => ?_)
    exact wp_iret X Y dX10_blame_40 ⟨_, rfl, h⟩
  · have h := ite_f h hc
    refine wp_aload_n X dX10_blame_9 1 rfl ?_
    refine wp_iload_n X dX10_blame_10 0 rfl ?_
    refine cv_School_refuse X dX10_blame_11 ml_X10_73  h (Nat.le_of_ble_eq_true rfl) (by decide) (fun r11 I11 J11 h => ?_)
    exact wp_iret X Y dX10_blame_14 ⟨_, rfl, h⟩

theorem c_School_blame {l : Launch} {g : GE} (hg : Inj g) {I : MI} {J : MJ} {Q : Int32 → MI → MJ → Prop} {x1 : Int32} {x2 : Int32}  (h : f_School_blame x1 x2 I J Q) : Cm l g yX10_blame cX10_blame 4 (Option.some Jvm.ClassFile.FieldType.int) 2 [.ref (g.1 0), .int x1, .int x2] I J (Pi Q) := by
  refine Cm.of (As := fun ad => [.ref (ad 0), .int x1, .int x2]) hg pn_X10 (Nat.le_of_ble_eq_true rfl) ?_
  exact (fun Γ _ _ X Y => w_School_blame_b0 X Y  h)
theorem cv_School_blame {Γ : Ctx} {cc : ByteArray} {nL d pc index : Nat} {own : String} {L : List (Nat × Value)} {rest : List Value} {I : MI} {J : MJ} {Q : Int32 → MI → MJ → Prop} {x1 : Int32} {x2 : Int32} (X : Cx Γ cc nL own d) (hd : decode cc pc = .ok (.invokevirtual index, 3)) (hlink : Cond.methodLink own index yX10_blame ∈ TT)  (h : f_School_blame x1 x2 I J Q) (hrest : (rest.map fun v => v.category).sum ≤ 8) (hdd : 2 + 1 ≤ d) (kk : ∀ (r : Int32) (I' : MI) (J' : MJ), Q r I' J' → Wp Γ nL (pc + 3) L (.int r :: rest) I' J') : Wp Γ nL pc L (.int x2 :: .int x1 :: .ref (ad Γ 0) :: rest) I J :=
  wp_callV (As := [.int x1, .int x2]) (rest := rest) (T := TX10) (N := 9) X hd hlink mv_X10_blame sh_0 (by decide) rfl (c_School_blame X.inj  h) rfl rfl hrest hdd (fun v I' J' hv => by obtain ⟨r, rfl, hq⟩ := hv; exact kk r I' J' hq)
theorem dX10_raise_0 : decode cX10_raise 0 = .ok (.iload_n 1, 1) := by decide +kernel
theorem dX10_raise_1 : decode cX10_raise 1 = .ok (.invokestatic 69, 3) := by decide +kernel
theorem dX10_raise_4 : decode cX10_raise 4 = .ok (.istore_n 2, 1) := by decide +kernel
theorem dX10_raise_5 : decode cX10_raise 5 = .ok (.iload_n 2, 1) := by decide +kernel
theorem dX10_raise_6 : decode cX10_raise 6 = .ok (.ifCond .ne 17, 3) := by decide +kernel
theorem dX10_raise_9 : decode cX10_raise 9 = .ok (.aload_n 0, 1) := by decide +kernel
theorem dX10_raise_10 : decode cX10_raise 10 = .ok (.getfield 11, 3) := by decide +kernel
theorem dX10_raise_13 : decode cX10_raise 13 = .ok (.iload_n 1, 1) := by decide +kernel
theorem dX10_raise_14 : decode cX10_raise 14 = .ok (.aaload, 1) := by decide +kernel
theorem dX10_raise_15 : decode cX10_raise 15 = .ok (.getfield 304, 3) := by decide +kernel
theorem dX10_raise_18 : decode cX10_raise 18 = .ok (.ifCond .ne 5, 3) := by decide +kernel
theorem dX10_raise_21 : decode cX10_raise 21 = .ok (.iconst 1, 1) := by decide +kernel
theorem dX10_raise_22 : decode cX10_raise 22 = .ok (.istore_n 2, 1) := by decide +kernel
theorem dX10_raise_23 : decode cX10_raise 23 = .ok (.iload_n 2, 1) := by decide +kernel
theorem dX10_raise_24 : decode cX10_raise 24 = .ok (.ifCond .eq 9, 3) := by decide +kernel
theorem dX10_raise_27 : decode cX10_raise 27 = .ok (.aload_n 0, 1) := by decide +kernel
theorem dX10_raise_28 : decode cX10_raise 28 = .ok (.iload_n 2, 1) := by decide +kernel
theorem dX10_raise_29 : decode cX10_raise 29 = .ok (.invokevirtual 73, 3) := by decide +kernel
theorem dX10_raise_32 : decode cX10_raise 32 = .ok (.ireturn, 1) := by decide +kernel
theorem dX10_raise_33 : decode cX10_raise 33 = .ok (.aload_n 0, 1) := by decide +kernel
theorem dX10_raise_34 : decode cX10_raise 34 = .ok (.getfield 11, 3) := by decide +kernel
theorem dX10_raise_37 : decode cX10_raise 37 = .ok (.iload_n 1, 1) := by decide +kernel
theorem dX10_raise_38 : decode cX10_raise 38 = .ok (.aaload, 1) := by decide +kernel
theorem dX10_raise_39 : decode cX10_raise 39 = .ok (.iconst 0, 1) := by decide +kernel
theorem dX10_raise_40 : decode cX10_raise 40 = .ok (.putfield 304, 3) := by decide +kernel
theorem dX10_raise_43 : decode cX10_raise 43 = .ok (.aload_n 0, 1) := by decide +kernel
theorem dX10_raise_44 : decode cX10_raise 44 = .ok (.aload_n 0, 1) := by decide +kernel
theorem dX10_raise_45 : decode cX10_raise 45 = .ok (.getfield 11, 3) := by decide +kernel
theorem dX10_raise_48 : decode cX10_raise 48 = .ok (.iload_n 1, 1) := by decide +kernel
theorem dX10_raise_49 : decode cX10_raise 49 = .ok (.aaload, 1) := by decide +kernel
theorem dX10_raise_50 : decode cX10_raise 50 = .ok (.getfield 307, 3) := by decide +kernel
theorem dX10_raise_53 : decode cX10_raise 53 = .ok (.invokevirtual 86, 3) := by decide +kernel
theorem dX10_raise_56 : decode cX10_raise 56 = .ok (.ireturn, 1) := by decide +kernel
def f_School_raise_b23 (x1 : Int32) (x2 : Int32) (Q : Int32 → MI → MJ → Prop) (I : MI) (J : MJ) : Prop :=
  (if x2 = 0 then vp_in x1 16 ∧ ∀ I40 : MI, I40 = sI I (1 + 64 + 7 * x1.toNatClampNeg) (upd (I (1 + 64 + 7 * x1.toNatClampNeg)) 5 0) → vp_in x1 16 ∧ f_School_done (I40 (1 + 64 + 7 * x1.toNatClampNeg) 6) I40 J (fun r53 I53 J53 => Q r53 I53 J53) else f_School_refuse x2 I J (fun r29 I29 J29 => Q r29 I29 J29))
def f_School_raise (x1 : Int32) (I : MI) (J : MJ) (Q : Int32 → MI → MJ → Prop) : Prop :=
  f_School_placeFault x1 I J (fun r1 I1 J1 => (if r1 = 0 then vp_in x1 16 ∧ (if (I1 (1 + 64 + 7 * x1.toNatClampNeg) 5) = 0 then f_School_raise_b23 x1 1 Q I1 J1 else f_School_raise_b23 x1 r1 Q I1 J1) else f_School_raise_b23 x1 r1 Q I1 J1))
set_option maxRecDepth 100000 in
set_option maxHeartbeats 4000000 in
theorem w_School_raise_b23 {Γ : Ctx} {Q : Int32 → MI → MJ → Prop} {x1 : Int32} {x2 : Int32}  (X : Cx Γ cX10_raise 3 RX10 2) (Y : Rt Γ (Pi Q) (Option.some Jvm.ClassFile.FieldType.int))   {I : MI} {J : MJ} (h : f_School_raise_b23 x1 x2 Q I J) : Wp Γ 3 23 [(0, .ref (ad Γ 0)), (1, .int x1), (2, .int x2)] [] I J := by
  unfold f_School_raise_b23 at h
  refine wp_iload_n X dX10_raise_23 2 rfl ?_
  refine wp_if_eq (tgt := 33) X dX10_raise_24 (by decide) (fun hc => ?_) (fun hc => ?_)
  · have h := ite_t h hc
    refine wp_aload_n X dX10_raise_33 0 rfl ?_
    refine gf_X10_11 (o' := 1) X sh_0 rfl dX10_raise_34 ?_
    refine wp_iload_n X dX10_raise_37 1 rfl ?_
    obtain ⟨hb38, h⟩ := h
    refine wp_aald X sh_1 hb38 dX10_raise_38 ?_
    refine wp_iconst X dX10_raise_39 ic_0 ?_
    refine pf_X10_304 X ((okP_at hb38).1) (by decide) dX10_raise_40 (fun I40 eI40 => ?_)
    have h := h I40 eI40
    refine wp_aload_n X dX10_raise_43 0 rfl ?_
    refine wp_aload_n X dX10_raise_44 0 rfl ?_
    refine gf_X10_11 (o' := 1) X sh_0 rfl dX10_raise_45 ?_
    refine wp_iload_n X dX10_raise_48 1 rfl ?_
    obtain ⟨hb49, h⟩ := h
    refine wp_aald X sh_1 hb49 dX10_raise_49 ?_
    refine gf_X10_307 X ((okP_at hb49).1) dX10_raise_50 ?_
    refine cv_School_done X dX10_raise_53 ml_X10_86  h (Nat.le_of_ble_eq_true rfl) (by decide) (fun r53 I53 J53 h => ?_)
    exact wp_iret X Y dX10_raise_56 ⟨_, rfl, h⟩
  · have h := ite_f h hc
    refine wp_aload_n X dX10_raise_27 0 rfl ?_
    refine wp_iload_n X dX10_raise_28 2 rfl ?_
    refine cv_School_refuse X dX10_raise_29 ml_X10_73  h (Nat.le_of_ble_eq_true rfl) (by decide) (fun r29 I29 J29 h => ?_)
    exact wp_iret X Y dX10_raise_32 ⟨_, rfl, h⟩

set_option maxRecDepth 100000 in
set_option maxHeartbeats 4000000 in
theorem w_School_raise_b0 {Γ : Ctx} {Q : Int32 → MI → MJ → Prop} {x1 : Int32}  (X : Cx Γ cX10_raise 3 RX10 2) (Y : Rt Γ (Pi Q) (Option.some Jvm.ClassFile.FieldType.int))   {I : MI} {J : MJ} (h : f_School_raise x1 I J Q) : Wp Γ 3 0 [(0, .ref (ad Γ 0)), (1, .int x1)] [] I J := by
  unfold f_School_raise at h
  refine wp_iload_n X dX10_raise_0 1 rfl ?_
  refine cs_School_placeFault X dX10_raise_1 ml_X10_69  h (Nat.le_of_ble_eq_true rfl) (by decide) (fun r1 I1 J1 h => ?_)
  refine wp_istore_n (L' := [(2, .int r1), (0, .ref (ad Γ 0)), (1, .int x1)]) X dX10_raise_4 rfl (by decide) rfl ?_
  refine wp_iload_n X dX10_raise_5 0 rfl ?_
  refine wp_if_ne (tgt := 23) X dX10_raise_6 (by decide) (fun hc => ?_) (fun hc => ?_)
  · have h := ite_f h hc
    refine wp_sub X [1, 2, 0] rfl ?_
    exact w_School_raise_b23 X Y  h
  · have h := ite_t h hc
    refine wp_aload_n X dX10_raise_9 1 rfl ?_
    refine gf_X10_11 (o' := 1) X sh_0 rfl dX10_raise_10 ?_
    refine wp_iload_n X dX10_raise_13 2 rfl ?_
    obtain ⟨hb14, h⟩ := h
    refine wp_aald X sh_1 hb14 dX10_raise_14 ?_
    refine gf_X10_304 X ((okP_at hb14).1) dX10_raise_15 ?_
    refine wp_if_ne (tgt := 23) X dX10_raise_18 (by decide) (fun hc => ?_) (fun hc => ?_)
    · have h := ite_f h hc
      refine wp_sub X [1, 2, 0] rfl ?_
      exact w_School_raise_b23 X Y  h
    · have h := ite_t h hc
      refine wp_iconst X dX10_raise_21 ic_1 ?_
      refine wp_istore_n (L' := [(2, .int 1), (0, .ref (ad Γ 0)), (1, .int x1)]) X dX10_raise_22 rfl (by decide) rfl ?_
      refine wp_sub X [1, 2, 0] rfl ?_
      exact w_School_raise_b23 X Y  h

theorem c_School_raise {l : Launch} {g : GE} (hg : Inj g) {I : MI} {J : MJ} {Q : Int32 → MI → MJ → Prop} {x1 : Int32}  (h : f_School_raise x1 I J Q) : Cm l g yX10_raise cX10_raise 3 (Option.some Jvm.ClassFile.FieldType.int) 2 [.ref (g.1 0), .int x1] I J (Pi Q) := by
  refine Cm.of (As := fun ad => [.ref (ad 0), .int x1]) hg pn_X10 (Nat.le_of_ble_eq_true rfl) ?_
  exact (fun Γ _ _ X Y => w_School_raise_b0 X Y  h)
theorem cv_School_raise {Γ : Ctx} {cc : ByteArray} {nL d pc index : Nat} {own : String} {L : List (Nat × Value)} {rest : List Value} {I : MI} {J : MJ} {Q : Int32 → MI → MJ → Prop} {x1 : Int32} (X : Cx Γ cc nL own d) (hd : decode cc pc = .ok (.invokevirtual index, 3)) (hlink : Cond.methodLink own index yX10_raise ∈ TT)  (h : f_School_raise x1 I J Q) (hrest : (rest.map fun v => v.category).sum ≤ 8) (hdd : 2 + 1 ≤ d) (kk : ∀ (r : Int32) (I' : MI) (J' : MJ), Q r I' J' → Wp Γ nL (pc + 3) L (.int r :: rest) I' J') : Wp Γ nL pc L (.int x1 :: .ref (ad Γ 0) :: rest) I J :=
  wp_callV (As := [.int x1]) (rest := rest) (T := TX10) (N := 9) X hd hlink mv_X10_raise sh_0 (by decide) rfl (c_School_raise X.inj  h) rfl rfl hrest hdd (fun v I' J' hv => by obtain ⟨r, rfl, hq⟩ := hv; exact kk r I' J' hq)
theorem dX10_status_0 : decode cX10_status 0 = .ok (.aload_n 0, 1) := by decide +kernel
theorem dX10_status_1 : decode cX10_status 1 = .ok (.getfield 64, 3) := by decide +kernel
theorem dX10_status_4 : decode cX10_status 4 = .ok (.ireturn, 1) := by decide +kernel
def f_School_status (I : MI) (J : MJ) (Q : Int32 → MI → MJ → Prop) : Prop :=
  Q (I 0 8) I J
set_option maxRecDepth 100000 in
set_option maxHeartbeats 4000000 in
theorem w_School_status_b0 {Γ : Ctx} {Q : Int32 → MI → MJ → Prop}   (X : Cx Γ cX10_status 1 RX10 0) (Y : Rt Γ (Pi Q) (Option.some Jvm.ClassFile.FieldType.int))   {I : MI} {J : MJ} (h : f_School_status  I J Q) : Wp Γ 1 0 [(0, .ref (ad Γ 0))] [] I J := by
  unfold f_School_status at h
  refine wp_aload_n X dX10_status_0 0 rfl ?_
  refine gf_X10_64 X sh_0 dX10_status_1 ?_
  exact wp_iret X Y dX10_status_4 ⟨_, rfl, h⟩

theorem c_School_status {l : Launch} {g : GE} (hg : Inj g) {I : MI} {J : MJ} {Q : Int32 → MI → MJ → Prop}   (h : f_School_status  I J Q) : Cm l g yX10_status cX10_status 1 (Option.some Jvm.ClassFile.FieldType.int) 0 [.ref (g.1 0)] I J (Pi Q) := by
  refine Cm.of (As := fun ad => [.ref (ad 0)]) hg pn_X10 (Nat.le_of_ble_eq_true rfl) ?_
  exact (fun Γ _ _ X Y => w_School_status_b0 X Y  h)
theorem cv_School_status {Γ : Ctx} {cc : ByteArray} {nL d pc index : Nat} {own : String} {L : List (Nat × Value)} {rest : List Value} {I : MI} {J : MJ} {Q : Int32 → MI → MJ → Prop}  (X : Cx Γ cc nL own d) (hd : decode cc pc = .ok (.invokevirtual index, 3)) (hlink : Cond.methodLink own index yX10_status ∈ TT)  (h : f_School_status  I J Q) (hrest : (rest.map fun v => v.category).sum ≤ 8) (hdd : 0 + 1 ≤ d) (kk : ∀ (r : Int32) (I' : MI) (J' : MJ), Q r I' J' → Wp Γ nL (pc + 3) L (.int r :: rest) I' J') : Wp Γ nL pc L (.ref (ad Γ 0) :: rest) I J :=
  wp_callV (As := []) (rest := rest) (T := TX10) (N := 9) X hd hlink mv_X10_status sh_0 (by decide) rfl (c_School_status X.inj  h) rfl rfl hrest hdd (fun v I' J' hv => by obtain ⟨r, rfl, hq⟩ := hv; exact kk r I' J' hq)
