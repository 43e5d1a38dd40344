theorem dX11_unknow_0 : decode cX11_unknow 0 = .ok (.aload_n 0, 1) := by decide +kernel
theorem dX11_unknow_1 : decode cX11_unknow 1 = .ok (.getfield 405, 3) := by decide +kernel
theorem dX11_unknow_4 : decode cX11_unknow 4 = .ok (.istore_n 1, 1) := by decide +kernel
theorem dX11_unknow_5 : decode cX11_unknow 5 = .ok (.aload_n 0, 1) := by decide +kernel
theorem dX11_unknow_6 : decode cX11_unknow 6 = .ok (.iconst 0, 1) := by decide +kernel
theorem dX11_unknow_7 : decode cX11_unknow 7 = .ok (.putfield 405, 3) := by decide +kernel
theorem dX11_unknow_10 : decode cX11_unknow 10 = .ok (.aload_n 0, 1) := by decide +kernel
theorem dX11_unknow_11 : decode cX11_unknow 11 = .ok (.iload_n 1, 1) := by decide +kernel
theorem dX11_unknow_12 : decode cX11_unknow 12 = .ok (.invokevirtual 157, 3) := by decide +kernel
theorem dX11_unknow_15 : decode cX11_unknow 15 = .ok (.ireturn, 1) := by decide +kernel
def f_Model_unknow (I : MI) (J : MJ) (Q : Int32 → MI → MJ → Prop) : Prop :=
  ∀ t4 : Int32, t4 = I 177 59 → ∀ I7 : MI, I7 = sI I 177 (upd (I 177) 59 0) → f_Model_done t4 I7 J (fun r12 I12 J12 => Q r12 I12 J12)
set_option maxRecDepth 100000 in
set_option maxHeartbeats 4000000 in
theorem w_Model_unknow_b0 {Γ : Ctx} {Q : Int32 → MI → MJ → Prop}   (X : Cx Γ cX11_unknow 2 RX11 1) (Y : Rt Γ (Pi Q) (Option.some Jvm.ClassFile.FieldType.int))   {I : MI} {J : MJ} (h : f_Model_unknow  I J Q) : Wp Γ 2 0 [(0, .ref (ad Γ 177))] [] I J := by
  unfold f_Model_unknow at h
  refine wp_aload_n X dX11_unknow_0 0 rfl ?_
  refine gf_X11_405 X sh_177 dX11_unknow_1 ?_
  refine wp_topi (fun t4 et4 => ?_)
  have h := h t4 et4
  refine wp_istore_n (L' := [(1, .int t4), (0, .ref (ad Γ 177))]) X dX11_unknow_4 rfl (by decide) rfl ?_
  refine wp_aload_n X dX11_unknow_5 1 rfl ?_
  refine wp_iconst X dX11_unknow_6 ic_0 ?_
  refine pf_X11_405 X sh_177 dX11_unknow_7 (fun I7 eI7 => ?_)
  have h := h I7 eI7
  refine wp_aload_n X dX11_unknow_10 1 rfl ?_
  refine wp_iload_n X dX11_unknow_11 0 rfl ?_
  refine cv_Model_done X dX11_unknow_12 ml_X11_157  h (Nat.le_of_ble_eq_true rfl) (by decide) (fun r12 I12 J12 h => ?_)
  exact wp_iret X Y dX11_unknow_15 ⟨_, rfl, h⟩

theorem c_Model_unknow {l : Launch} {g : GE} (hg : Inj g) {I : MI} {J : MJ} {Q : Int32 → MI → MJ → Prop}   (h : f_Model_unknow  I J Q) : Cm l g yX11_unknow cX11_unknow 2 (Option.some Jvm.ClassFile.FieldType.int) 1 [.ref (g.1 177)] I J (Pi Q) := by
  refine Cm.of (As := fun ad => [.ref (ad 177)]) hg pn_X11 (Nat.le_of_ble_eq_true rfl) ?_
  exact (fun Γ _ _ X Y => w_Model_unknow_b0 X Y  h)
theorem cv_Model_unknow {Γ : Ctx} {cc : ByteArray} {nL d pc index : Nat} {own : String} {L : List (Nat × Value)} {rest : List Value} {I : MI} {J : MJ} {Q : Int32 → MI → MJ → Prop}  (X : Cx Γ cc nL own d) (hd : decode cc pc = .ok (.invokevirtual index, 3)) (hlink : Cond.methodLink own index yX11_unknow ∈ TT)  (h : f_Model_unknow  I J Q) (hrest : (rest.map fun v => v.category).sum ≤ 8) (hdd : 1 + 1 ≤ d) (kk : ∀ (r : Int32) (I' : MI) (J' : MJ), Q r I' J' → Wp Γ nL (pc + 3) L (.int r :: rest) I' J') : Wp Γ nL pc L (.ref (ad Γ 177) :: rest) I J :=
  wp_callV (As := []) (rest := rest) (T := TX11) (N := 62) X hd hlink mv_X11_unknow sh_177 (by decide) rfl (c_Model_unknow X.inj  h) rfl rfl hrest hdd (fun v I' J' hv => by obtain ⟨r, rfl, hq⟩ := hv; exact kk r I' J' hq)
theorem dX11_knownSigns_0 : decode cX11_knownSigns 0 = .ok (.iconst 1, 1) := by decide +kernel
theorem dX11_knownSigns_1 : decode cX11_knownSigns 1 = .ok (.istore_n 1, 1) := by decide +kernel
theorem dX11_knownSigns_2 : decode cX11_knownSigns 2 = .ok (.iconst 0, 1) := by decide +kernel
theorem dX11_knownSigns_3 : decode cX11_knownSigns 3 = .ok (.istore_n 2, 1) := by decide +kernel
theorem dX11_knownSigns_4 : decode cX11_knownSigns 4 = .ok (.iload_n 2, 1) := by decide +kernel
theorem dX11_knownSigns_5 : decode cX11_knownSigns 5 = .ok (.aload_n 0, 1) := by decide +kernel
theorem dX11_knownSigns_6 : decode cX11_knownSigns 6 = .ok (.getfield 405, 3) := by decide +kernel
theorem dX11_knownSigns_9 : decode cX11_knownSigns 9 = .ok (.if_icmp .ge 63, 3) := by decide +kernel
theorem dX11_knownSigns_12 : decode cX11_knownSigns 12 = .ok (.aload_n 0, 1) := by decide +kernel
theorem dX11_knownSigns_13 : decode cX11_knownSigns 13 = .ok (.getfield 129, 3) := by decide +kernel
theorem dX11_knownSigns_16 : decode cX11_knownSigns 16 = .ok (.iload_n 2, 1) := by decide +kernel
theorem dX11_knownSigns_17 : decode cX11_knownSigns 17 = .ok (.laload, 1) := by decide +kernel
theorem dX11_knownSigns_18 : decode cX11_knownSigns 18 = .ok (.invokestatic 161, 3) := by decide +kernel
theorem dX11_knownSigns_21 : decode cX11_knownSigns 21 = .ok (.istore_n 3, 1) := by decide +kernel
theorem dX11_knownSigns_22 : decode cX11_knownSigns 22 = .ok (.iconst 0, 1) := by decide +kernel
theorem dX11_knownSigns_23 : decode cX11_knownSigns 23 = .ok (.istore 4, 2) := by decide +kernel
theorem dX11_knownSigns_25 : decode cX11_knownSigns 25 = .ok (.iload 4, 2) := by decide +kernel
theorem dX11_knownSigns_27 : decode cX11_knownSigns 27 = .ok (.iload_n 3, 1) := by decide +kernel
theorem dX11_knownSigns_28 : decode cX11_knownSigns 28 = .ok (.if_icmp .ge 38, 3) := by decide +kernel
theorem dX11_knownSigns_31 : decode cX11_knownSigns 31 = .ok (.aload_n 0, 1) := by decide +kernel
theorem dX11_knownSigns_32 : decode cX11_knownSigns 32 = .ok (.getfield 129, 3) := by decide +kernel
theorem dX11_knownSigns_35 : decode cX11_knownSigns 35 = .ok (.iload_n 2, 1) := by decide +kernel
theorem dX11_knownSigns_36 : decode cX11_knownSigns 36 = .ok (.laload, 1) := by decide +kernel
theorem dX11_knownSigns_37 : decode cX11_knownSigns 37 = .ok (.iload_n 3, 1) := by decide +kernel
theorem dX11_knownSigns_38 : decode cX11_knownSigns 38 = .ok (.iload 4, 2) := by decide +kernel
theorem dX11_knownSigns_40 : decode cX11_knownSigns 40 = .ok (.invokestatic 175, 3) := by decide +kernel
theorem dX11_knownSigns_43 : decode cX11_knownSigns 43 = .ok (.istore 5, 2) := by decide +kernel
theorem dX11_knownSigns_45 : decode cX11_knownSigns 45 = .ok (.iload 5, 2) := by decide +kernel
theorem dX11_knownSigns_47 : decode cX11_knownSigns 47 = .ok (.iload_n 1, 1) := by decide +kernel
theorem dX11_knownSigns_48 : decode cX11_knownSigns 48 = .ok (.if_icmp .lt 10, 3) := by decide +kernel
theorem dX11_knownSigns_51 : decode cX11_knownSigns 51 = .ok (.iload 5, 2) := by decide +kernel
theorem dX11_knownSigns_53 : decode cX11_knownSigns 53 = .ok (.iconst 1, 1) := by decide +kernel
theorem dX11_knownSigns_54 : decode cX11_knownSigns 54 = .ok (.iadd, 1) := by decide +kernel
theorem dX11_knownSigns_55 : decode cX11_knownSigns 55 = .ok (.goto 4, 3) := by decide +kernel
theorem dX11_knownSigns_58 : decode cX11_knownSigns 58 = .ok (.iload_n 1, 1) := by decide +kernel
theorem dX11_knownSigns_59 : decode cX11_knownSigns 59 = .ok (.istore_n 1, 1) := by decide +kernel
theorem dX11_knownSigns_60 : decode cX11_knownSigns 60 = .ok (.iinc 4 1, 3) := by decide +kernel
theorem dX11_knownSigns_63 : decode cX11_knownSigns 63 = .ok (.goto (-38), 3) := by decide +kernel
theorem dX11_knownSigns_66 : decode cX11_knownSigns 66 = .ok (.iinc 2 1, 3) := by decide +kernel
theorem dX11_knownSigns_69 : decode cX11_knownSigns 69 = .ok (.goto (-65), 3) := by decide +kernel
theorem dX11_knownSigns_72 : decode cX11_knownSigns 72 = .ok (.iload_n 1, 1) := by decide +kernel
theorem dX11_knownSigns_73 : decode cX11_knownSigns 73 = .ok (.ireturn, 1) := by decide +kernel
def f_Model_knownSigns_b59 (x4 : Int32) (s0 : Int32) (kh : Int32 → Int32 → MI → MJ → Prop) (I : MI) (J : MJ) : Prop :=
  ∀ t60 : Int32, t60 = x4 + 1 → kh s0 t60 I J
def f_Model_knownSigns_L25 (x2 : Int32) (x3 : Int32) (k66 : Int32 → MI → MJ → Prop) : Nat → Int32 → Int32 → MI → MJ → Prop
  | 0, _, _, _, _ => False
  | nf25 + 1, x1, x4, I, J =>
  (if x3 ≤ x4 then k66 x1 I J else vp_in x2 12 ∧ f_Model_signOf (J 217 x2.toNatClampNeg) x3 x4 I J (fun r40 I40 J40 => (if r40 < x1 then f_Model_knownSigns_b59 x4 x1 (f_Model_knownSigns_L25 x2 x3 k66 nf25) I40 J40 else f_Model_knownSigns_b59 x4 (r40 + 1) (f_Model_knownSigns_L25 x2 x3 k66 nf25) I40 J40)))
def f_Model_knownSigns_L4 (k72 : Int32 → MI → MJ → Prop) : Nat → Int32 → Int32 → MI → MJ → Prop
  | 0, _, _, _, _ => False
  | nf4 + 1, x1, x2, I, J =>
  (if (I 177 59) ≤ x2 then k72 x1 I J else vp_in x2 12 ∧ f_Model_lengthOf (J 217 x2.toNatClampNeg) I J (fun r18 I18 J18 => ∃ n, f_Model_knownSigns_L25 x2 r18 (fun (z66_x1 : Int32) (I : MI) (J : MJ) => ∀ t66 : Int32, t66 = x2 + 1 → f_Model_knownSigns_L4 k72 nf4 z66_x1 t66 I J) n x1 0 I18 J18))
def f_Model_knownSigns (I : MI) (J : MJ) (Q : Int32 → MI → MJ → Prop) : Prop :=
  ∃ n, f_Model_knownSigns_L4 (fun (z72_x1 : Int32) (I : MI) (J : MJ) => Q z72_x1 I J) n 1 0 I J
set_option maxRecDepth 100000 in
set_option maxHeartbeats 4000000 in
theorem w_Model_knownSigns_b59 {Γ : Ctx} {Q : Int32 → MI → MJ → Prop} {x2 : Int32} {x3 : Int32} {x4 : Int32} {s0 : Int32} {kh : Int32 → Int32 → MI → MJ → Prop} (X : Cx Γ cX11_knownSigns 6 RX11 1) (Y : Rt Γ (Pi Q) (Option.some Jvm.ClassFile.FieldType.int))  (hkh : ∀ (x1 : Int32) (x4 : Int32) (I : MI) (J : MJ), kh x1 x4 I J → Wp Γ 6 25 [(0, .ref (ad Γ 177)), (1, .int x1), (2, .int x2), (3, .int x3), (4, .int x4)] [] I J) {I : MI} {J : MJ} (h : f_Model_knownSigns_b59 x4 s0 kh I J) : Wp Γ 6 59 [(0, .ref (ad Γ 177)), (2, .int x2), (3, .int x3), (4, .int x4)] [.int s0] I J := by
  unfold f_Model_knownSigns_b59 at h
  refine wp_istore_n (L' := [(1, .int s0), (0, .ref (ad Γ 177)), (2, .int x2), (3, .int x3), (4, .int x4)]) X dX11_knownSigns_59 rfl (by decide) rfl ?_
  obtain ⟨t60, et60⟩ : ∃ y : Int32, y = x4 + 1 := ⟨_, rfl⟩
  have h := h t60 et60
  refine wp_iinc (L' := [(4, .int t60), (1, .int s0), (0, .ref (ad Γ 177)), (2, .int x2), (3, .int x3)]) X dX11_knownSigns_60 4 rfl (ii_1 et60) (by decide) rfl ?_
  refine wp_goto (tgt := 25) X dX11_knownSigns_63 (by decide) ?_
  refine wp_sub X [2, 1, 3, 4, 0] rfl ?_
  exact hkh _ _ _ _ h

set_option maxRecDepth 100000 in
set_option maxHeartbeats 4000000 in
theorem w_Model_knownSigns_L25 {Γ : Ctx} {Q : Int32 → MI → MJ → Prop} {x2 : Int32} {x3 : Int32} {k66 : Int32 → MI → MJ → Prop} (X : Cx Γ cX11_knownSigns 6 RX11 1) (Y : Rt Γ (Pi Q) (Option.some Jvm.ClassFile.FieldType.int))  (hk66 : ∀ (x1 : Int32) (I : MI) (J : MJ), k66 x1 I J → Wp Γ 6 66 [(0, .ref (ad Γ 177)), (1, .int x1), (2, .int x2)] [] I J) : ∀ (n : Nat) (x1 : Int32) (x4 : Int32) (I : MI) (J : MJ), f_Model_knownSigns_L25 x2 x3 k66 n x1 x4 I J → Wp Γ 6 25 [(0, .ref (ad Γ 177)), (1, .int x1), (2, .int x2), (3, .int x3), (4, .int x4)] [] I J := by
  intro n
  induction n with
  | zero => intro x1 x4 I J h; exact absurd h (by simp [f_Model_knownSigns_L25])
  | succ n ih =>
  intro x1 x4 I J h
  unfold f_Model_knownSigns_L25 at h
  refine wp_iload X dX11_knownSigns_25 4 rfl ?_
  refine wp_iload_n X dX11_knownSigns_27 3 rfl ?_
  refine wp_icmp_ge (tgt := 66) X dX11_knownSigns_28 (by decide) (fun hc => ?_) (fun hc => ?_)
  · have h := ite_t h hc
    refine wp_sub X [0, 1, 2] rfl ?_
    exact hk66 _ _ _ h
  · have h := ite_f h hc
    refine wp_aload_n X dX11_knownSigns_31 0 rfl ?_
    refine gf_X11_129 (o' := 217) X sh_177 rfl dX11_knownSigns_32 ?_
    refine wp_iload_n X dX11_knownSigns_35 2 rfl ?_
    obtain ⟨hb36, h⟩ := h
    refine wp_lald X sh_217 hb36 dX11_knownSigns_36 ?_
    refine wp_iload_n X dX11_knownSigns_37 3 rfl ?_
    refine wp_iload X dX11_knownSigns_38 4 rfl ?_
    refine cs_Model_signOf X dX11_knownSigns_40 ml_X11_175  h (Nat.le_of_ble_eq_true rfl) (by decide) (fun r40 I40 J40 h => ?_)
    refine wp_istore (L' := [(5, .int r40), (0, .ref (ad Γ 177)), (1, .int x1), (2, .int x2), (3, .int x3), (4, .int x4)]) X dX11_knownSigns_43 (by decide) rfl ?_
    refine wp_iload X dX11_knownSigns_45 0 rfl ?_
    refine wp_iload_n X dX11_knownSigns_47 2 rfl ?_
    refine wp_icmp_lt (tgt := 58) X dX11_knownSigns_48 (by decide) (fun hc => ?_) (fun hc => ?_)
    · have h := ite_t h hc
      refine wp_iload_n X dX11_knownSigns_58 2 rfl ?_
      refine wp_sub X [1, 3, 4, 5] rfl ?_
      exact w_Model_knownSigns_b59 X Y ih h
    · have h := ite_f h hc
      refine wp_iload X dX11_knownSigns_51 0 rfl ?_
      refine wp_iconst X dX11_knownSigns_53 ic_1 ?_
      refine wp_iadd X dX11_knownSigns_54 ?_
      refine wp_goto (tgt := 59) X dX11_knownSigns_55 (by decide) ?_
      refine wp_sub X [1, 3, 4, 5] rfl ?_
      exact w_Model_knownSigns_b59 X Y ih h

set_option maxRecDepth 100000 in
set_option maxHeartbeats 4000000 in
theorem w_Model_knownSigns_L4 {Γ : Ctx} {Q : Int32 → MI → MJ → Prop}  {k72 : Int32 → MI → MJ → Prop} (X : Cx Γ cX11_knownSigns 6 RX11 1) (Y : Rt Γ (Pi Q) (Option.some Jvm.ClassFile.FieldType.int))  (hk72 : ∀ (x1 : Int32) (I : MI) (J : MJ), k72 x1 I J → Wp Γ 6 72 [(1, .int x1)] [] I J) : ∀ (n : Nat) (x1 : Int32) (x2 : Int32) (I : MI) (J : MJ), f_Model_knownSigns_L4 k72 n x1 x2 I J → Wp Γ 6 4 [(0, .ref (ad Γ 177)), (1, .int x1), (2, .int x2)] [] I J := by
  intro n
  induction n with
  | zero => intro x1 x2 I J h; exact absurd h (by simp [f_Model_knownSigns_L4])
  | succ n ih =>
  intro x1 x2 I J h
  unfold f_Model_knownSigns_L4 at h
  refine wp_iload_n X dX11_knownSigns_4 2 rfl ?_
  refine wp_aload_n X dX11_knownSigns_5 0 rfl ?_
  refine gf_X11_405 X sh_177 dX11_knownSigns_6 ?_
  refine wp_icmp_ge (tgt := 72) X dX11_knownSigns_9 (by decide) (fun hc => ?_) (fun hc => ?_)
  · have h := ite_t h hc
    refine wp_sub X [1] rfl ?_
    exact hk72 _ _ _ h
  · have h := ite_f h hc
    refine wp_aload_n X dX11_knownSigns_12 0 rfl ?_
    refine gf_X11_129 (o' := 217) X sh_177 rfl dX11_knownSigns_13 ?_
    refine wp_iload_n X dX11_knownSigns_16 2 rfl ?_
    obtain ⟨hb17, h⟩ := h
    refine wp_lald X sh_217 hb17 dX11_knownSigns_17 ?_
    refine cs_Model_lengthOf X dX11_knownSigns_18 ml_X11_161  h (Nat.le_of_ble_eq_true rfl) (by decide) (fun r18 I18 J18 h => ?_)
    refine wp_istore_n (L' := [(3, .int r18), (0, .ref (ad Γ 177)), (1, .int x1), (2, .int x2)]) X dX11_knownSigns_21 rfl (by decide) rfl ?_
    refine wp_iconst X dX11_knownSigns_22 ic_0 ?_
    refine wp_istore (L' := [(4, .int 0), (3, .int r18), (0, .ref (ad Γ 177)), (1, .int x1), (2, .int x2)]) X dX11_knownSigns_23 (by decide) rfl ?_
    obtain ⟨n, h⟩ := h
    refine wp_sub X [2, 3, 4, 1, 0] rfl ?_
    refine w_Model_knownSigns_L25 X Y  ?_ n _ _ _ _ h
    · intro z66_x1 I J h
      obtain ⟨t66, et66⟩ : ∃ y : Int32, y = x2 + 1 := ⟨_, rfl⟩
      have h := h t66 et66
      refine wp_iinc (L' := [(2, .int t66), (0, .ref (ad Γ 177)), (1, .int z66_x1)]) X dX11_knownSigns_66 2 rfl (ii_1 et66) (by decide) rfl ?_
      refine wp_goto (tgt := 4) X dX11_knownSigns_69 (by decide) ?_
      refine wp_sub X [1, 2, 0] rfl ?_
      exact ih _ _ _ _ h

set_option maxRecDepth 100000 in
set_option maxHeartbeats 4000000 in
theorem w_Model_knownSigns_b0 {Γ : Ctx} {Q : Int32 → MI → MJ → Prop}   (X : Cx Γ cX11_knownSigns 6 RX11 1) (Y : Rt Γ (Pi Q) (Option.some Jvm.ClassFile.FieldType.int))   {I : MI} {J : MJ} (h : f_Model_knownSigns  I J Q) : Wp Γ 6 0 [(0, .ref (ad Γ 177))] [] I J := by
  unfold f_Model_knownSigns at h
  refine wp_iconst X dX11_knownSigns_0 ic_1 ?_
  refine wp_istore_n (L' := [(1, .int 1), (0, .ref (ad Γ 177))]) X dX11_knownSigns_1 rfl (by decide) rfl ?_
  refine wp_iconst X dX11_knownSigns_2 ic_0 ?_
  refine wp_istore_n (L' := [(2, .int 0), (1, .int 1), (0, .ref (ad Γ 177))]) X dX11_knownSigns_3 rfl (by decide) rfl ?_
  obtain ⟨n, h⟩ := h
  refine wp_sub X [2, 1, 0] rfl ?_
  refine w_Model_knownSigns_L4 X Y  ?_ n _ _ _ _ h
  · intro z72_x1 I J h
    refine wp_iload_n X dX11_knownSigns_72 0 rfl ?_
    exact wp_iret X Y dX11_knownSigns_73 ⟨_, rfl, h⟩

theorem c_Model_knownSigns {l : Launch} {g : GE} (hg : Inj g) {I : MI} {J : MJ} {Q : Int32 → MI → MJ → Prop}   (h : f_Model_knownSigns  I J Q) : Cm l g yX11_knownSigns cX11_knownSigns 6 (Option.some Jvm.ClassFile.FieldType.int) 1 [.ref (g.1 177)] I J (Pi Q) := by
  refine Cm.of (As := fun ad => [.ref (ad 177)]) hg pn_X11 (Nat.le_of_ble_eq_true rfl) ?_
  exact (fun Γ _ _ X Y => w_Model_knownSigns_b0 X Y  h)
theorem cv_Model_knownSigns {Γ : Ctx} {cc : ByteArray} {nL d pc index : Nat} {own : String} {L : List (Nat × Value)} {rest : List Value} {I : MI} {J : MJ} {Q : Int32 → MI → MJ → Prop}  (X : Cx Γ cc nL own d) (hd : decode cc pc = .ok (.invokevirtual index, 3)) (hlink : Cond.methodLink own index yX11_knownSigns ∈ TT)  (h : f_Model_knownSigns  I J Q) (hrest : (rest.map fun v => v.category).sum ≤ 8) (hdd : 1 + 1 ≤ d) (kk : ∀ (r : Int32) (I' : MI) (J' : MJ), Q r I' J' → Wp Γ nL (pc + 3) L (.int r :: rest) I' J') : Wp Γ nL pc L (.ref (ad Γ 177) :: rest) I J :=
  wp_callV (As := []) (rest := rest) (T := TX11) (N := 62) X hd hlink mv_X11_knownSigns sh_177 (by decide) rfl (c_Model_knownSigns X.inj  h) rfl rfl hrest hdd (fun v I' J' hv => by obtain ⟨r, rfl, hq⟩ := hv; exact kk r I' J' hq)
theorem dX11_isRight_0 : decode cX11_isRight 0 = .ok (.iconst 1, 1) := by decide +kernel
theorem dX11_isRight_1 : decode cX11_isRight 1 = .ok (.istore_n 2, 1) := by decide +kernel
theorem dX11_isRight_2 : decode cX11_isRight 2 = .ok (.iconst 0, 1) := by decide +kernel
theorem dX11_isRight_3 : decode cX11_isRight 3 = .ok (.istore_n 3, 1) := by decide +kernel
theorem dX11_isRight_4 : decode cX11_isRight 4 = .ok (.iload_n 3, 1) := by decide +kernel
theorem dX11_isRight_5 : decode cX11_isRight 5 = .ok (.aload_n 0, 1) := by decide +kernel
theorem dX11_isRight_6 : decode cX11_isRight 6 = .ok (.getfield 405, 3) := by decide +kernel
theorem dX11_isRight_9 : decode cX11_isRight 9 = .ok (.if_icmp .ge 129, 3) := by decide +kernel
theorem dX11_isRight_12 : decode cX11_isRight 12 = .ok (.iload_n 2, 1) := by decide +kernel
theorem dX11_isRight_13 : decode cX11_isRight 13 = .ok (.ifCond .eq 125, 3) := by decide +kernel
theorem dX11_isRight_16 : decode cX11_isRight 16 = .ok (.aload_n 0, 1) := by decide +kernel
theorem dX11_isRight_17 : decode cX11_isRight 17 = .ok (.getfield 129, 3) := by decide +kernel
theorem dX11_isRight_20 : decode cX11_isRight 20 = .ok (.iload_n 3, 1) := by decide +kernel
theorem dX11_isRight_21 : decode cX11_isRight 21 = .ok (.laload, 1) := by decide +kernel
theorem dX11_isRight_22 : decode cX11_isRight 22 = .ok (.invokestatic 161, 3) := by decide +kernel
theorem dX11_isRight_25 : decode cX11_isRight 25 = .ok (.istore 4, 2) := by decide +kernel
theorem dX11_isRight_27 : decode cX11_isRight 27 = .ok (.iconst 0, 1) := by decide +kernel
theorem dX11_isRight_28 : decode cX11_isRight 28 = .ok (.istore 5, 2) := by decide +kernel
theorem dX11_isRight_30 : decode cX11_isRight 30 = .ok (.iconst 0, 1) := by decide +kernel
theorem dX11_isRight_31 : decode cX11_isRight 31 = .ok (.istore 6, 2) := by decide +kernel
theorem dX11_isRight_33 : decode cX11_isRight 33 = .ok (.iload 6, 2) := by decide +kernel
theorem dX11_isRight_35 : decode cX11_isRight 35 = .ok (.iload 4, 2) := by decide +kernel
theorem dX11_isRight_37 : decode cX11_isRight 37 = .ok (.if_icmp .ge 34, 3) := by decide +kernel
theorem dX11_isRight_40 : decode cX11_isRight 40 = .ok (.aload_n 0, 1) := by decide +kernel
theorem dX11_isRight_41 : decode cX11_isRight 41 = .ok (.getfield 135, 3) := by decide +kernel
theorem dX11_isRight_44 : decode cX11_isRight 44 = .ok (.iload_n 1, 1) := by decide +kernel
theorem dX11_isRight_45 : decode cX11_isRight 45 = .ok (.iload 5, 2) := by decide +kernel
theorem dX11_isRight_47 : decode cX11_isRight 47 = .ok (.imul, 1) := by decide +kernel
theorem dX11_isRight_48 : decode cX11_isRight 48 = .ok (.aload_n 0, 1) := by decide +kernel
theorem dX11_isRight_49 : decode cX11_isRight 49 = .ok (.getfield 129, 3) := by decide +kernel
theorem dX11_isRight_52 : decode cX11_isRight 52 = .ok (.iload_n 3, 1) := by decide +kernel
theorem dX11_isRight_53 : decode cX11_isRight 53 = .ok (.laload, 1) := by decide +kernel
theorem dX11_isRight_54 : decode cX11_isRight 54 = .ok (.iload 4, 2) := by decide +kernel
theorem dX11_isRight_56 : decode cX11_isRight 56 = .ok (.iload 6, 2) := by decide +kernel
theorem dX11_isRight_58 : decode cX11_isRight 58 = .ok (.invokestatic 175, 3) := by decide +kernel
theorem dX11_isRight_61 : decode cX11_isRight 61 = .ok (.iadd, 1) := by decide +kernel
theorem dX11_isRight_62 : decode cX11_isRight 62 = .ok (.iaload, 1) := by decide +kernel
theorem dX11_isRight_63 : decode cX11_isRight 63 = .ok (.istore 5, 2) := by decide +kernel
theorem dX11_isRight_65 : decode cX11_isRight 65 = .ok (.iinc 6 1, 3) := by decide +kernel
theorem dX11_isRight_68 : decode cX11_isRight 68 = .ok (.goto (-35), 3) := by decide +kernel
theorem dX11_isRight_71 : decode cX11_isRight 71 = .ok (.aload_n 0, 1) := by decide +kernel
theorem dX11_isRight_72 : decode cX11_isRight 72 = .ok (.getfield 138, 3) := by decide +kernel
theorem dX11_isRight_75 : decode cX11_isRight 75 = .ok (.iload_n 3, 1) := by decide +kernel
theorem dX11_isRight_76 : decode cX11_isRight 76 = .ok (.iload 5, 2) := by decide +kernel
theorem dX11_isRight_78 : decode cX11_isRight 78 = .ok (.iastore, 1) := by decide +kernel
theorem dX11_isRight_79 : decode cX11_isRight 79 = .ok (.iconst 0, 1) := by decide +kernel
theorem dX11_isRight_80 : decode cX11_isRight 80 = .ok (.istore 6, 2) := by decide +kernel
theorem dX11_isRight_82 : decode cX11_isRight 82 = .ok (.iload 6, 2) := by decide +kernel
theorem dX11_isRight_84 : decode cX11_isRight 84 = .ok (.iload_n 3, 1) := by decide +kernel
theorem dX11_isRight_85 : decode cX11_isRight 85 = .ok (.if_icmp .ge 47, 3) := by decide +kernel
theorem dX11_isRight_88 : decode cX11_isRight 88 = .ok (.iload_n 2, 1) := by decide +kernel
theorem dX11_isRight_89 : decode cX11_isRight 89 = .ok (.ifCond .eq 43, 3) := by decide +kernel
theorem dX11_isRight_92 : decode cX11_isRight 92 = .ok (.aload_n 0, 1) := by decide +kernel
theorem dX11_isRight_93 : decode cX11_isRight 93 = .ok (.getfield 138, 3) := by decide +kernel
theorem dX11_isRight_96 : decode cX11_isRight 96 = .ok (.iload 6, 2) := by decide +kernel
theorem dX11_isRight_98 : decode cX11_isRight 98 = .ok (.iaload, 1) := by decide +kernel
theorem dX11_isRight_99 : decode cX11_isRight 99 = .ok (.iload 5, 2) := by decide +kernel
theorem dX11_isRight_101 : decode cX11_isRight 101 = .ok (.if_icmp .ne 19, 3) := by decide +kernel
theorem dX11_isRight_104 : decode cX11_isRight 104 = .ok (.aload_n 0, 1) := by decide +kernel
theorem dX11_isRight_105 : decode cX11_isRight 105 = .ok (.getfield 132, 3) := by decide +kernel
theorem dX11_isRight_108 : decode cX11_isRight 108 = .ok (.iload 6, 2) := by decide +kernel
theorem dX11_isRight_110 : decode cX11_isRight 110 = .ok (.iaload, 1) := by decide +kernel
theorem dX11_isRight_111 : decode cX11_isRight 111 = .ok (.aload_n 0, 1) := by decide +kernel
theorem dX11_isRight_112 : decode cX11_isRight 112 = .ok (.getfield 132, 3) := by decide +kernel
theorem dX11_isRight_115 : decode cX11_isRight 115 = .ok (.iload_n 3, 1) := by decide +kernel
theorem dX11_isRight_116 : decode cX11_isRight 116 = .ok (.iaload, 1) := by decide +kernel
theorem dX11_isRight_117 : decode cX11_isRight 117 = .ok (.if_icmp .ne 7, 3) := by decide +kernel
theorem dX11_isRight_120 : decode cX11_isRight 120 = .ok (.iconst 1, 1) := by decide +kernel
theorem dX11_isRight_121 : decode cX11_isRight 121 = .ok (.goto 4, 3) := by decide +kernel
theorem dX11_isRight_124 : decode cX11_isRight 124 = .ok (.iconst 0, 1) := by decide +kernel
theorem dX11_isRight_125 : decode cX11_isRight 125 = .ok (.istore_n 2, 1) := by decide +kernel
theorem dX11_isRight_126 : decode cX11_isRight 126 = .ok (.iinc 6 1, 3) := by decide +kernel
theorem dX11_isRight_129 : decode cX11_isRight 129 = .ok (.goto (-47), 3) := by decide +kernel
theorem dX11_isRight_132 : decode cX11_isRight 132 = .ok (.iinc 3 1, 3) := by decide +kernel
theorem dX11_isRight_135 : decode cX11_isRight 135 = .ok (.goto (-131), 3) := by decide +kernel
theorem dX11_isRight_138 : decode cX11_isRight 138 = .ok (.iload_n 2, 1) := by decide +kernel
theorem dX11_isRight_139 : decode cX11_isRight 139 = .ok (.ireturn, 1) := by decide +kernel
def f_Model_isRight_b132 (x2 : Int32) (x3 : Int32) (kh : Int32 → Int32 → MI → MJ → Prop) (I : MI) (J : MJ) : Prop :=
  ∀ t132 : Int32, t132 = x3 + 1 → kh x2 t132 I J
def f_Model_isRight_b125 (x6 : Int32) (s0 : Int32) (kh : Int32 → Int32 → MI → MJ → Prop) (I : MI) (J : MJ) : Prop :=
  ∀ t126 : Int32, t126 = x6 + 1 → kh s0 t126 I J
def f_Model_isRight_b120 (x6 : Int32) (kh : Int32 → Int32 → MI → MJ → Prop) (I : MI) (J : MJ) : Prop :=
  f_Model_isRight_b125 x6 1 kh I J
def f_Model_isRight_L82 (x3 : Int32) (x5 : Int32) (k132 : Int32 → MI → MJ → Prop) : Nat → Int32 → Int32 → MI → MJ → Prop
  | 0, _, _, _, _ => False
  | nf82 + 1, x2, x6, I, J =>
  (if x3 ≤ x6 then k132 x2 I J else (if x2 = 0 then k132 x2 I J else vp_in x6 12 ∧ (if (I 220 x6.toNatClampNeg) = x5 then vp_in x6 12 ∧ vp_in x3 12 ∧ (if (I 218 x6.toNatClampNeg) = (I 218 x3.toNatClampNeg) then f_Model_isRight_b120 x6 (f_Model_isRight_L82 x3 x5 k132 nf82) I J else f_Model_isRight_b125 x6 0 (f_Model_isRight_L82 x3 x5 k132 nf82) I J) else f_Model_isRight_b120 x6 (f_Model_isRight_L82 x3 x5 k132 nf82) I J)))
def f_Model_isRight_L33 (x1 : Int32) (x3 : Int32) (x4 : Int32) (k71 : Int32 → MI → MJ → Prop) : Nat → Int32 → Int32 → MI → MJ → Prop
  | 0, _, _, _, _ => False
  | nf33 + 1, x5, x6, I, J =>
  (if x4 ≤ x6 then k71 x5 I J else vp_in x3 12 ∧ f_Model_signOf (J 217 x3.toNatClampNeg) x4 x6 I J (fun r58 I58 J58 => vp_in ((x1 * x5) + r58) 64 ∧ ∀ t63 : Int32, t63 = I58 219 ((x1 * x5) + r58).toNatClampNeg → ∀ t65 : Int32, t65 = x6 + 1 → f_Model_isRight_L33 x1 x3 x4 k71 nf33 t63 t65 I58 J58))
def f_Model_isRight_L4 (x1 : Int32) (k138 : Int32 → MI → MJ → Prop) : Nat → Int32 → Int32 → MI → MJ → Prop
  | 0, _, _, _, _ => False
  | nf4 + 1, x2, x3, I, J =>
  (if (I 177 59) ≤ x3 then k138 x2 I J else (if x2 = 0 then k138 x2 I J else vp_in x3 12 ∧ f_Model_lengthOf (J 217 x3.toNatClampNeg) I J (fun r22 I22 J22 => ∃ n, f_Model_isRight_L33 x1 x3 r22 (fun (z71_x5 : Int32) (I : MI) (J : MJ) => vp_in x3 12 ∧ ∀ I78 : MI, I78 = sI I 220 (upd (I 220) x3.toNatClampNeg z71_x5) → ∃ n, f_Model_isRight_L82 x3 z71_x5 (fun (z132_x2 : Int32) (I : MI) (J : MJ) => f_Model_isRight_b132 z132_x2 x3 (f_Model_isRight_L4 x1 k138 nf4) I J) n x2 0 I78 J) n 0 0 I22 J22)))
def f_Model_isRight (x1 : Int32) (I : MI) (J : MJ) (Q : Int32 → MI → MJ → Prop) : Prop :=
  ∃ n, f_Model_isRight_L4 x1 (fun (z138_x2 : Int32) (I : MI) (J : MJ) => (z138_x2 = 0 ∨ z138_x2 = 1) ∧ Q z138_x2 I J) n 1 0 I J
set_option maxRecDepth 100000 in
set_option maxHeartbeats 4000000 in
theorem w_Model_isRight_b132 {Γ : Ctx} {Q : Int32 → MI → MJ → Prop} {x1 : Int32} {x2 : Int32} {x3 : Int32} {kh : Int32 → Int32 → MI → MJ → Prop} (X : Cx Γ cX11_isRight 7 RX11 1) (Y : Rt Γ (Pi Q) (Option.some Jvm.ClassFile.FieldType.boolean))  (hkh : ∀ (x2 : Int32) (x3 : Int32) (I : MI) (J : MJ), kh x2 x3 I J → Wp Γ 7 4 [(0, .ref (ad Γ 177)), (1, .int x1), (2, .int x2), (3, .int x3)] [] I J) {I : MI} {J : MJ} (h : f_Model_isRight_b132 x2 x3 kh I J) : Wp Γ 7 132 [(0, .ref (ad Γ 177)), (1, .int x1), (2, .int x2), (3, .int x3)] [] I J := by
  unfold f_Model_isRight_b132 at h
  obtain ⟨t132, et132⟩ : ∃ y : Int32, y = x3 + 1 := ⟨_, rfl⟩
  have h := h t132 et132
  refine wp_iinc (L' := [(3, .int t132), (0, .ref (ad Γ 177)), (1, .int x1), (2, .int x2)]) X dX11_isRight_132 3 rfl (ii_1 et132) (by decide) rfl ?_
  refine wp_goto (tgt := 4) X dX11_isRight_135 (by decide) ?_
  refine wp_sub X [1, 2, 3, 0] rfl ?_
  exact hkh _ _ _ _ h

set_option maxRecDepth 100000 in
set_option maxHeartbeats 4000000 in
theorem w_Model_isRight_b125 {Γ : Ctx} {Q : Int32 → MI → MJ → Prop} {x1 : Int32} {x3 : Int32} {x5 : Int32} {x6 : Int32} {s0 : Int32} {kh : Int32 → Int32 → MI → MJ → Prop} (X : Cx Γ cX11_isRight 7 RX11 1) (Y : Rt Γ (Pi Q) (Option.some Jvm.ClassFile.FieldType.boolean))  (hkh : ∀ (x2 : Int32) (x6 : Int32) (I : MI) (J : MJ), kh x2 x6 I J → Wp Γ 7 82 [(0, .ref (ad Γ 177)), (1, .int x1), (2, .int x2), (3, .int x3), (5, .int x5), (6, .int x6)] [] I J) {I : MI} {J : MJ} (h : f_Model_isRight_b125 x6 s0 kh I J) : Wp Γ 7 125 [(0, .ref (ad Γ 177)), (1, .int x1), (3, .int x3), (5, .int x5), (6, .int x6)] [.int s0] I J := by
  unfold f_Model_isRight_b125 at h
  refine wp_istore_n (L' := [(2, .int s0), (0, .ref (ad Γ 177)), (1, .int x1), (3, .int x3), (5, .int x5), (6, .int x6)]) X dX11_isRight_125 rfl (by decide) rfl ?_
  obtain ⟨t126, et126⟩ : ∃ y : Int32, y = x6 + 1 := ⟨_, rfl⟩
  have h := h t126 et126
  refine wp_iinc (L' := [(6, .int t126), (2, .int s0), (0, .ref (ad Γ 177)), (1, .int x1), (3, .int x3), (5, .int x5)]) X dX11_isRight_126 5 rfl (ii_1 et126) (by decide) rfl ?_
  refine wp_goto (tgt := 82) X dX11_isRight_129 (by decide) ?_
  refine wp_sub X [2, 3, 1, 4, 5, 0] rfl ?_
  exact hkh _ _ _ _ h

set_option maxRecDepth 100000 in
set_option maxHeartbeats 4000000 in
theorem w_Model_isRight_b120 {Γ : Ctx} {Q : Int32 → MI → MJ → Prop} {x1 : Int32} {x3 : Int32} {x5 : Int32} {x6 : Int32} {kh : Int32 → Int32 → MI → MJ → Prop} (X : Cx Γ cX11_isRight 7 RX11 1) (Y : Rt Γ (Pi Q) (Option.some Jvm.ClassFile.FieldType.boolean))  (hkh : ∀ (x2 : Int32) (x6 : Int32) (I : MI) (J : MJ), kh x2 x6 I J → Wp Γ 7 82 [(0, .ref (ad Γ 177)), (1, .int x1), (2, .int x2), (3, .int x3), (5, .int x5), (6, .int x6)] [] I J) {I : MI} {J : MJ} (h : f_Model_isRight_b120 x6 kh I J) : Wp Γ 7 120 [(0, .ref (ad Γ 177)), (1, .int x1), (3, .int x3), (5, .int x5), (6, .int x6)] [] I J := by
  unfold f_Model_isRight_b120 at h
  refine wp_iconst X dX11_isRight_120 ic_1 ?_
  refine wp_goto (tgt := 125) X dX11_isRight_121 (by decide) ?_
  exact w_Model_isRight_b125 X Y hkh h

set_option maxRecDepth 100000 in
set_option maxHeartbeats 4000000 in
theorem w_Model_isRight_L82 {Γ : Ctx} {Q : Int32 → MI → MJ → Prop} {x1 : Int32} {x3 : Int32} {x5 : Int32} {k132 : Int32 → MI → MJ → Prop} (X : Cx Γ cX11_isRight 7 RX11 1) (Y : Rt Γ (Pi Q) (Option.some Jvm.ClassFile.FieldType.boolean))  (hk132 : ∀ (x2 : Int32) (I : MI) (J : MJ), k132 x2 I J → Wp Γ 7 132 [(0, .ref (ad Γ 177)), (1, .int x1), (2, .int x2), (3, .int x3)] [] I J) : ∀ (n : Nat) (x2 : Int32) (x6 : Int32) (I : MI) (J : MJ), f_Model_isRight_L82 x3 x5 k132 n x2 x6 I J → Wp Γ 7 82 [(0, .ref (ad Γ 177)), (1, .int x1), (2, .int x2), (3, .int x3), (5, .int x5), (6, .int x6)] [] I J := by
  intro n
  induction n with
  | zero => intro x2 x6 I J h; exact absurd h (by simp [f_Model_isRight_L82])
  | succ n ih =>
  intro x2 x6 I J h
  unfold f_Model_isRight_L82 at h
  refine wp_iload X dX11_isRight_82 5 rfl ?_
  refine wp_iload_n X dX11_isRight_84 3 rfl ?_
  refine wp_icmp_ge (tgt := 132) X dX11_isRight_85 (by decide) (fun hc => ?_) (fun hc => ?_)
  · have h := ite_t h hc
    refine wp_sub X [0, 1, 2, 3] rfl ?_
    exact hk132 _ _ _ h
  · have h := ite_f h hc
    refine wp_iload_n X dX11_isRight_88 2 rfl ?_
    refine wp_if_eq (tgt := 132) X dX11_isRight_89 (by decide) (fun hc => ?_) (fun hc => ?_)
    · have h := ite_t h hc
      refine wp_sub X [0, 1, 2, 3] rfl ?_
      exact hk132 _ _ _ h
    · have h := ite_f h hc
      refine wp_aload_n X dX11_isRight_92 0 rfl ?_
      refine gf_X11_138 (o' := 220) X sh_177 rfl dX11_isRight_93 ?_
      refine wp_iload X dX11_isRight_96 5 rfl ?_
      obtain ⟨hb98, h⟩ := h
      refine wp_iald X sh_220 hb98 dX11_isRight_98 ?_
      refine wp_iload X dX11_isRight_99 4 rfl ?_
      refine wp_icmp_ne (tgt := 120) X dX11_isRight_101 (by decide) (fun hc => ?_) (fun hc => ?_)
      · have h := ite_f h hc
        refine wp_sub X [0, 1, 3, 4, 5] rfl ?_
        exact w_Model_isRight_b120 X Y ih h
      · have h := ite_t h hc
        refine wp_aload_n X dX11_isRight_104 0 rfl ?_
        refine gf_X11_132 (o' := 218) X sh_177 rfl dX11_isRight_105 ?_
        refine wp_iload X dX11_isRight_108 5 rfl ?_
        obtain ⟨hb110, h⟩ := h
        refine wp_iald X sh_218 hb110 dX11_isRight_110 ?_
        refine wp_aload_n X dX11_isRight_111 0 rfl ?_
        refine gf_X11_132 (o' := 218) X sh_177 rfl dX11_isRight_112 ?_
        refine wp_iload_n X dX11_isRight_115 3 rfl ?_
        obtain ⟨hb116, h⟩ := h
        refine wp_iald X sh_218 hb116 dX11_isRight_116 ?_
        refine wp_icmp_ne (tgt := 124) X dX11_isRight_117 (by decide) (fun hc => ?_) (fun hc => ?_)
        · have h := ite_f h hc
          refine wp_iconst X dX11_isRight_124 ic_0 ?_
          refine wp_sub X [0, 1, 3, 4, 5] rfl ?_
          exact w_Model_isRight_b125 X Y ih h
        · have h := ite_t h hc
          refine wp_sub X [0, 1, 3, 4, 5] rfl ?_
          exact w_Model_isRight_b120 X Y ih h

set_option maxRecDepth 100000 in
set_option maxHeartbeats 4000000 in
theorem w_Model_isRight_L33 {Γ : Ctx} {Q : Int32 → MI → MJ → Prop} {x1 : Int32} {x2 : Int32} {x3 : Int32} {x4 : Int32} {k71 : Int32 → MI → MJ → Prop} (X : Cx Γ cX11_isRight 7 RX11 1) (Y : Rt Γ (Pi Q) (Option.some Jvm.ClassFile.FieldType.boolean))  (hk71 : ∀ (x5 : Int32) (I : MI) (J : MJ), k71 x5 I J → Wp Γ 7 71 [(0, .ref (ad Γ 177)), (1, .int x1), (2, .int x2), (3, .int x3), (5, .int x5)] [] I J) : ∀ (n : Nat) (x5 : Int32) (x6 : Int32) (I : MI) (J : MJ), f_Model_isRight_L33 x1 x3 x4 k71 n x5 x6 I J → Wp Γ 7 33 [(0, .ref (ad Γ 177)), (1, .int x1), (2, .int x2), (3, .int x3), (4, .int x4), (5, .int x5), (6, .int x6)] [] I J := by
  intro n
  induction n with
  | zero => intro x5 x6 I J h; exact absurd h (by simp [f_Model_isRight_L33])
  | succ n ih =>
  intro x5 x6 I J h
  unfold f_Model_isRight_L33 at h
  refine wp_iload X dX11_isRight_33 6 rfl ?_
  refine wp_iload X dX11_isRight_35 4 rfl ?_
  refine wp_icmp_ge (tgt := 71) X dX11_isRight_37 (by decide) (fun hc => ?_) (fun hc => ?_)
  · have h := ite_t h hc
    refine wp_sub X [0, 1, 2, 3, 5] rfl ?_
    exact hk71 _ _ _ h
  · have h := ite_f h hc
    refine wp_aload_n X dX11_isRight_40 0 rfl ?_
    refine gf_X11_135 (o' := 219) X sh_177 rfl dX11_isRight_41 ?_
    refine wp_iload_n X dX11_isRight_44 1 rfl ?_
    refine wp_iload X dX11_isRight_45 5 rfl ?_
    refine wp_imul X dX11_isRight_47 ?_
    refine wp_aload_n X dX11_isRight_48 0 rfl ?_
    refine gf_X11_129 (o' := 217) X sh_177 rfl dX11_isRight_49 ?_
    refine wp_iload_n X dX11_isRight_52 3 rfl ?_
    obtain ⟨hb53, h⟩ := h
    refine wp_lald X sh_217 hb53 dX11_isRight_53 ?_
    refine wp_iload X dX11_isRight_54 4 rfl ?_
    refine wp_iload X dX11_isRight_56 6 rfl ?_
    refine cs_Model_signOf X dX11_isRight_58 ml_X11_175  h (Nat.le_of_ble_eq_true rfl) (by decide) (fun r58 I58 J58 h => ?_)
    refine wp_iadd X dX11_isRight_61 ?_
    obtain ⟨hb62, h⟩ := h
    refine wp_iald X sh_219 hb62 dX11_isRight_62 ?_
    refine wp_topi (fun t63 et63 => ?_)
    have h := h t63 et63
    refine wp_istore (L' := [(5, .int t63), (0, .ref (ad Γ 177)), (1, .int x1), (2, .int x2), (3, .int x3), (4, .int x4), (6, .int x6)]) X dX11_isRight_63 (by decide) rfl ?_
    obtain ⟨t65, et65⟩ : ∃ y : Int32, y = x6 + 1 := ⟨_, rfl⟩
    have h := h t65 et65
    refine wp_iinc (L' := [(6, .int t65), (5, .int t63), (0, .ref (ad Γ 177)), (1, .int x1), (2, .int x2), (3, .int x3), (4, .int x4)]) X dX11_isRight_65 6 rfl (ii_1 et65) (by decide) rfl ?_
    refine wp_goto (tgt := 33) X dX11_isRight_68 (by decide) ?_
    refine wp_sub X [2, 3, 4, 5, 6, 1, 0] rfl ?_
    exact ih _ _ _ _ h

set_option maxRecDepth 100000 in
set_option maxHeartbeats 4000000 in
theorem w_Model_isRight_L4 {Γ : Ctx} {Q : Int32 → MI → MJ → Prop} {x1 : Int32} {k138 : Int32 → MI → MJ → Prop} (X : Cx Γ cX11_isRight 7 RX11 1) (Y : Rt Γ (Pi Q) (Option.some Jvm.ClassFile.FieldType.boolean))  (hk138 : ∀ (x2 : Int32) (I : MI) (J : MJ), k138 x2 I J → Wp Γ 7 138 [(2, .int x2)] [] I J) : ∀ (n : Nat) (x2 : Int32) (x3 : Int32) (I : MI) (J : MJ), f_Model_isRight_L4 x1 k138 n x2 x3 I J → Wp Γ 7 4 [(0, .ref (ad Γ 177)), (1, .int x1), (2, .int x2), (3, .int x3)] [] I J := by
  intro n
  induction n with
  | zero => intro x2 x3 I J h; exact absurd h (by simp [f_Model_isRight_L4])
  | succ n ih =>
  intro x2 x3 I J h
  unfold f_Model_isRight_L4 at h
  refine wp_iload_n X dX11_isRight_4 3 rfl ?_
  refine wp_aload_n X dX11_isRight_5 0 rfl ?_
  refine gf_X11_405 X sh_177 dX11_isRight_6 ?_
  refine wp_icmp_ge (tgt := 138) X dX11_isRight_9 (by decide) (fun hc => ?_) (fun hc => ?_)
  · have h := ite_t h hc
    refine wp_sub X [2] rfl ?_
    exact hk138 _ _ _ h
  · have h := ite_f h hc
    refine wp_iload_n X dX11_isRight_12 2 rfl ?_
    refine wp_if_eq (tgt := 138) X dX11_isRight_13 (by decide) (fun hc => ?_) (fun hc => ?_)
    · have h := ite_t h hc
      refine wp_sub X [2] rfl ?_
      exact hk138 _ _ _ h
    · have h := ite_f h hc
      refine wp_aload_n X dX11_isRight_16 0 rfl ?_
      refine gf_X11_129 (o' := 217) X sh_177 rfl dX11_isRight_17 ?_
      refine wp_iload_n X dX11_isRight_20 3 rfl ?_
      obtain ⟨hb21, h⟩ := h
      refine wp_lald X sh_217 hb21 dX11_isRight_21 ?_
      refine cs_Model_lengthOf X dX11_isRight_22 ml_X11_161  h (Nat.le_of_ble_eq_true rfl) (by decide) (fun r22 I22 J22 h => ?_)
      refine wp_istore (L' := [(4, .int r22), (0, .ref (ad Γ 177)), (1, .int x1), (2, .int x2), (3, .int x3)]) X dX11_isRight_25 (by decide) rfl ?_
      refine wp_iconst X dX11_isRight_27 ic_0 ?_
      refine wp_istore (L' := [(5, .int 0), (4, .int r22), (0, .ref (ad Γ 177)), (1, .int x1), (2, .int x2), (3, .int x3)]) X dX11_isRight_28 (by decide) rfl ?_
      refine wp_iconst X dX11_isRight_30 ic_0 ?_
      refine wp_istore (L' := [(6, .int 0), (5, .int 0), (4, .int r22), (0, .ref (ad Γ 177)), (1, .int x1), (2, .int x2), (3, .int x3)]) X dX11_isRight_31 (by decide) rfl ?_
      obtain ⟨n, h⟩ := h
      refine wp_sub X [3, 4, 5, 6, 2, 1, 0] rfl ?_
      refine w_Model_isRight_L33 X Y  ?_ n _ _ _ _ h
      · intro z71_x5 I J h
        refine wp_aload_n X dX11_isRight_71 0 rfl ?_
        refine gf_X11_138 (o' := 220) X sh_177 rfl dX11_isRight_72 ?_
        refine wp_iload_n X dX11_isRight_75 3 rfl ?_
        refine wp_iload X dX11_isRight_76 4 rfl ?_
        obtain ⟨hb78, h⟩ := h
        refine wp_iast X sh_220 hb78 dX11_isRight_78 ?_
        refine wp_memI (fun I78 eI78 => ?_)
        have h := h I78 eI78
        refine wp_iconst X dX11_isRight_79 ic_0 ?_
        refine wp_istore (L' := [(6, .int 0), (0, .ref (ad Γ 177)), (1, .int x1), (2, .int x2), (3, .int x3), (5, .int z71_x5)]) X dX11_isRight_80 (by decide) rfl ?_
        obtain ⟨n, h⟩ := h
        refine wp_sub X [1, 2, 3, 4, 5, 0] rfl ?_
        refine w_Model_isRight_L82 X Y  ?_ n _ _ _ _ h
        · intro z132_x2 I J h
          exact w_Model_isRight_b132 X Y ih h

set_option maxRecDepth 100000 in
set_option maxHeartbeats 4000000 in
theorem w_Model_isRight_b0 {Γ : Ctx} {Q : Int32 → MI → MJ → Prop} {x1 : Int32}  (X : Cx Γ cX11_isRight 7 RX11 1) (Y : Rt Γ (Pi Q) (Option.some Jvm.ClassFile.FieldType.boolean))   {I : MI} {J : MJ} (h : f_Model_isRight x1 I J Q) : Wp Γ 7 0 [(0, .ref (ad Γ 177)), (1, .int x1)] [] I J := by
  unfold f_Model_isRight at h
  refine wp_iconst X dX11_isRight_0 ic_1 ?_
  refine wp_istore_n (L' := [(2, .int 1), (0, .ref (ad Γ 177)), (1, .int x1)]) X dX11_isRight_1 rfl (by decide) rfl ?_
  refine wp_iconst X dX11_isRight_2 ic_0 ?_
  refine wp_istore_n (L' := [(3, .int 0), (2, .int 1), (0, .ref (ad Γ 177)), (1, .int x1)]) X dX11_isRight_3 rfl (by decide) rfl ?_
  obtain ⟨n, h⟩ := h
  refine wp_sub X [2, 3, 1, 0] rfl ?_
  refine w_Model_isRight_L4 X Y  ?_ n _ _ _ _ h
  · intro z138_x2 I J h
    refine wp_iload_n X dX11_isRight_138 0 rfl ?_
    exact wp_zret X Y dX11_isRight_139 h.1 ⟨_, rfl, h.2⟩

theorem c_Model_isRight {l : Launch} {g : GE} (hg : Inj g) {I : MI} {J : MJ} {Q : Int32 → MI → MJ → Prop} {x1 : Int32}  (h : f_Model_isRight x1 I J Q) : Cm l g yX11_isRight cX11_isRight 7 (Option.some Jvm.ClassFile.FieldType.boolean) 1 [.ref (g.1 177), .int x1] I J (Pi Q) := by
  refine Cm.of (As := fun ad => [.ref (ad 177), .int x1]) hg pn_X11 (Nat.le_of_ble_eq_true rfl) ?_
  exact (fun Γ _ _ X Y => w_Model_isRight_b0 X Y  h)
theorem cv_Model_isRight {Γ : Ctx} {cc : ByteArray} {nL d pc index : Nat} {own : String} {L : List (Nat × Value)} {rest : List Value} {I : MI} {J : MJ} {Q : Int32 → MI → MJ → Prop} {x1 : Int32} (X : Cx Γ cc nL own d) (hd : decode cc pc = .ok (.invokevirtual index, 3)) (hlink : Cond.methodLink own index yX11_isRight ∈ TT)  (h : f_Model_isRight x1 I J Q) (hrest : (rest.map fun v => v.category).sum ≤ 8) (hdd : 1 + 1 ≤ d) (kk : ∀ (r : Int32) (I' : MI) (J' : MJ), Q r I' J' → Wp Γ nL (pc + 3) L (.int r :: rest) I' J') : Wp Γ nL pc L (.int x1 :: .ref (ad Γ 177) :: rest) I J :=
  wp_callV (As := [.int x1]) (rest := rest) (T := TX11) (N := 62) X hd hlink mv_X11_isRight sh_177 (by decide) rfl (c_Model_isRight X.inj  h) rfl rfl hrest hdd (fun v I' J' hv => by obtain ⟨r, rfl, hq⟩ := hv; exact kk r I' J' hq)
theorem dX11_nextTable_0 : decode cX11_nextTable 0 = .ok (.iload_n 2, 1) := by decide +kernel
theorem dX11_nextTable_1 : decode cX11_nextTable 1 = .ok (.iconst 1, 1) := by decide +kernel
theorem dX11_nextTable_2 : decode cX11_nextTable 2 = .ok (.isub, 1) := by decide +kernel
theorem dX11_nextTable_3 : decode cX11_nextTable 3 = .ok (.istore_n 3, 1) := by decide +kernel
theorem dX11_nextTable_4 : decode cX11_nextTable 4 = .ok (.iload_n 3, 1) := by decide +kernel
theorem dX11_nextTable_5 : decode cX11_nextTable 5 = .ok (.ifCond .lt 28, 3) := by decide +kernel
theorem dX11_nextTable_8 : decode cX11_nextTable 8 = .ok (.aload_n 0, 1) := by decide +kernel
theorem dX11_nextTable_9 : decode cX11_nextTable 9 = .ok (.getfield 135, 3) := by decide +kernel
theorem dX11_nextTable_12 : decode cX11_nextTable 12 = .ok (.iload_n 3, 1) := by decide +kernel
theorem dX11_nextTable_13 : decode cX11_nextTable 13 = .ok (.iaload, 1) := by decide +kernel
theorem dX11_nextTable_14 : decode cX11_nextTable 14 = .ok (.iload_n 1, 1) := by decide +kernel
theorem dX11_nextTable_15 : decode cX11_nextTable 15 = .ok (.iconst 1, 1) := by decide +kernel
theorem dX11_nextTable_16 : decode cX11_nextTable 16 = .ok (.isub, 1) := by decide +kernel
theorem dX11_nextTable_17 : decode cX11_nextTable 17 = .ok (.if_icmp .ne 16, 3) := by decide +kernel
theorem dX11_nextTable_20 : decode cX11_nextTable 20 = .ok (.aload_n 0, 1) := by decide +kernel
theorem dX11_nextTable_21 : decode cX11_nextTable 21 = .ok (.getfield 135, 3) := by decide +kernel
theorem dX11_nextTable_24 : decode cX11_nextTable 24 = .ok (.iload_n 3, 1) := by decide +kernel
theorem dX11_nextTable_25 : decode cX11_nextTable 25 = .ok (.iconst 0, 1) := by decide +kernel
theorem dX11_nextTable_26 : decode cX11_nextTable 26 = .ok (.iastore, 1) := by decide +kernel
theorem dX11_nextTable_27 : decode cX11_nextTable 27 = .ok (.iinc 3 (-1), 3) := by decide +kernel
theorem dX11_nextTable_30 : decode cX11_nextTable 30 = .ok (.goto (-26), 3) := by decide +kernel
theorem dX11_nextTable_33 : decode cX11_nextTable 33 = .ok (.iload_n 3, 1) := by decide +kernel
theorem dX11_nextTable_34 : decode cX11_nextTable 34 = .ok (.ifCond .ge 5, 3) := by decide +kernel
theorem dX11_nextTable_37 : decode cX11_nextTable 37 = .ok (.iconst 0, 1) := by decide +kernel
theorem dX11_nextTable_38 : decode cX11_nextTable 38 = .ok (.ireturn, 1) := by decide +kernel
theorem dX11_nextTable_39 : decode cX11_nextTable 39 = .ok (.aload_n 0, 1) := by decide +kernel
theorem dX11_nextTable_40 : decode cX11_nextTable 40 = .ok (.getfield 135, 3) := by decide +kernel
theorem dX11_nextTable_43 : decode cX11_nextTable 43 = .ok (.iload_n 3, 1) := by decide +kernel
theorem dX11_nextTable_44 : decode cX11_nextTable 44 = .ok (.dup2, 1) := by decide +kernel
theorem dX11_nextTable_45 : decode cX11_nextTable 45 = .ok (.iaload, 1) := by decide +kernel
theorem dX11_nextTable_46 : decode cX11_nextTable 46 = .ok (.iconst 1, 1) := by decide +kernel
theorem dX11_nextTable_47 : decode cX11_nextTable 47 = .ok (.iadd, 1) := by decide +kernel
theorem dX11_nextTable_48 : decode cX11_nextTable 48 = .ok (.iastore, 1) := by decide +kernel
theorem dX11_nextTable_49 : decode cX11_nextTable 49 = .ok (.iconst 1, 1) := by decide +kernel
theorem dX11_nextTable_50 : decode cX11_nextTable 50 = .ok (.ireturn, 1) := by decide +kernel
def f_Model_nextTable_b33 (x3 : Int32) (Q : Int32 → MI → MJ → Prop) (I : MI) (J : MJ) : Prop :=
  (if 0 ≤ x3 then vp_in x3 64 ∧ vp_in x3 64 ∧ ∀ I48 : MI, I48 = sI I 219 (upd (I 219) x3.toNatClampNeg ((I 219 x3.toNatClampNeg) + 1)) → Q 1 I48 J else Q 0 I J)
def f_Model_nextTable_L4 (x1 : Int32) (k33 : Int32 → MI → MJ → Prop) : Nat → Int32 → MI → MJ → Prop
  | 0, _, _, _ => False
  | nf4 + 1, x3, I, J =>
  (if x3 < 0 then k33 x3 I J else vp_in x3 64 ∧ (if (I 219 x3.toNatClampNeg) = (x1 - 1) then vp_in x3 64 ∧ ∀ I26 : MI, I26 = sI I 219 (upd (I 219) x3.toNatClampNeg 0) → ∀ t27 : Int32, t27 = x3 + (-1) → f_Model_nextTable_L4 x1 k33 nf4 t27 I26 J else k33 x3 I J))
def f_Model_nextTable (x1 : Int32) (x2 : Int32) (I : MI) (J : MJ) (Q : Int32 → MI → MJ → Prop) : Prop :=
  ∀ t3 : Int32, t3 = x2 - 1 → ∃ n, f_Model_nextTable_L4 x1 (fun (z33_x3 : Int32) (I : MI) (J : MJ) => f_Model_nextTable_b33 z33_x3 Q I J) n t3 I J
set_option maxRecDepth 100000 in
set_option maxHeartbeats 4000000 in
theorem w_Model_nextTable_b33 {Γ : Ctx} {Q : Int32 → MI → MJ → Prop} {x3 : Int32}  (X : Cx Γ cX11_nextTable 4 RX11 0) (Y : Rt Γ (Pi Q) (Option.some Jvm.ClassFile.FieldType.boolean))   {I : MI} {J : MJ} (h : f_Model_nextTable_b33 x3 Q I J) : Wp Γ 4 33 [(0, .ref (ad Γ 177)), (3, .int x3)] [] I J := by
  unfold f_Model_nextTable_b33 at h
  refine wp_iload_n X dX11_nextTable_33 1 rfl ?_
  refine wp_if_ge (tgt := 39) X dX11_nextTable_34 (by decide) (fun hc => ?_) (fun hc => ?_)
  · have h := ite_t h hc
    refine wp_aload_n X dX11_nextTable_39 0 rfl ?_
    refine gf_X11_135 (o' := 219) X sh_177 rfl dX11_nextTable_40 ?_
    refine wp_iload_n X dX11_nextTable_43 1 rfl ?_
    refine wp_dup2_11 X dX11_nextTable_44 rfl rfl ?_
    obtain ⟨hb45, h⟩ := h
    refine wp_iald X sh_219 hb45 dX11_nextTable_45 ?_
    refine wp_iconst X dX11_nextTable_46 ic_1 ?_
    refine wp_iadd X dX11_nextTable_47 ?_
    obtain ⟨hb48, h⟩ := h
    refine wp_iast X sh_219 hb48 dX11_nextTable_48 ?_
    refine wp_memI (fun I48 eI48 => ?_)
    have h := h I48 eI48
    refine wp_iconst X dX11_nextTable_49 ic_1 ?_
    exact wp_zret X Y dX11_nextTable_50 (by decide) ⟨_, rfl, h⟩
  · have h := ite_f h hc
    refine wp_iconst X dX11_nextTable_37 ic_0 ?_
    exact wp_zret X Y dX11_nextTable_38 (by decide) ⟨_, rfl, h⟩

set_option maxRecDepth 100000 in
set_option maxHeartbeats 4000000 in
theorem w_Model_nextTable_L4 {Γ : Ctx} {Q : Int32 → MI → MJ → Prop} {x1 : Int32} {k33 : Int32 → MI → MJ → Prop} (X : Cx Γ cX11_nextTable 4 RX11 0) (Y : Rt Γ (Pi Q) (Option.some Jvm.ClassFile.FieldType.boolean))  (hk33 : ∀ (x3 : Int32) (I : MI) (J : MJ), k33 x3 I J → Wp Γ 4 33 [(0, .ref (ad Γ 177)), (3, .int x3)] [] I J) : ∀ (n : Nat) (x3 : Int32) (I : MI) (J : MJ), f_Model_nextTable_L4 x1 k33 n x3 I J → Wp Γ 4 4 [(0, .ref (ad Γ 177)), (1, .int x1), (3, .int x3)] [] I J := by
  intro n
  induction n with
  | zero => intro x3 I J h; exact absurd h (by simp [f_Model_nextTable_L4])
  | succ n ih =>
  intro x3 I J h
  unfold f_Model_nextTable_L4 at h
  refine wp_iload_n X dX11_nextTable_4 2 rfl ?_
  refine wp_if_lt (tgt := 33) X dX11_nextTable_5 (by decide) (fun hc => ?_) (fun hc => ?_)
  · have h := ite_t h hc
    refine wp_sub X [0, 2] rfl ?_
    exact hk33 _ _ _ h
  · have h := ite_f h hc
    refine wp_aload_n X dX11_nextTable_8 0 rfl ?_
    refine gf_X11_135 (o' := 219) X sh_177 rfl dX11_nextTable_9 ?_
    refine wp_iload_n X dX11_nextTable_12 2 rfl ?_
    obtain ⟨hb13, h⟩ := h
    refine wp_iald X sh_219 hb13 dX11_nextTable_13 ?_
    refine wp_iload_n X dX11_nextTable_14 1 rfl ?_
    refine wp_iconst X dX11_nextTable_15 ic_1 ?_
    refine wp_isub X dX11_nextTable_16 ?_
    refine wp_icmp_ne (tgt := 33) X dX11_nextTable_17 (by decide) (fun hc => ?_) (fun hc => ?_)
    · have h := ite_f h hc
      refine wp_sub X [0, 2] rfl ?_
      exact hk33 _ _ _ h
    · have h := ite_t h hc
      refine wp_aload_n X dX11_nextTable_20 0 rfl ?_
      refine gf_X11_135 (o' := 219) X sh_177 rfl dX11_nextTable_21 ?_
      refine wp_iload_n X dX11_nextTable_24 2 rfl ?_
      refine wp_iconst X dX11_nextTable_25 ic_0 ?_
      obtain ⟨hb26, h⟩ := h
      refine wp_iast X sh_219 hb26 dX11_nextTable_26 ?_
      refine wp_memI (fun I26 eI26 => ?_)
      have h := h I26 eI26
      obtain ⟨t27, et27⟩ : ∃ y : Int32, y = x3 + (-1) := ⟨_, rfl⟩
      have h := h t27 et27
      refine wp_iinc (L' := [(3, .int t27), (0, .ref (ad Γ 177)), (1, .int x1)]) X dX11_nextTable_27 2 rfl (ii_m1 et27) (by decide) rfl ?_
      refine wp_goto (tgt := 4) X dX11_nextTable_30 (by decide) ?_
      refine wp_sub X [1, 2, 0] rfl ?_
      exact ih _ _ _ h

set_option maxRecDepth 100000 in
set_option maxHeartbeats 4000000 in
theorem w_Model_nextTable_b0 {Γ : Ctx} {Q : Int32 → MI → MJ → Prop} {x1 : Int32} {x2 : Int32}  (X : Cx Γ cX11_nextTable 4 RX11 0) (Y : Rt Γ (Pi Q) (Option.some Jvm.ClassFile.FieldType.boolean))   {I : MI} {J : MJ} (h : f_Model_nextTable x1 x2 I J Q) : Wp Γ 4 0 [(0, .ref (ad Γ 177)), (1, .int x1), (2, .int x2)] [] I J := by
  unfold f_Model_nextTable at h
  refine wp_iload_n X dX11_nextTable_0 2 rfl ?_
  refine wp_iconst X dX11_nextTable_1 ic_1 ?_
  refine wp_isub X dX11_nextTable_2 ?_
  refine wp_topi (fun t3 et3 => ?_)
  have h := h t3 et3
  refine wp_istore_n (L' := [(3, .int t3), (0, .ref (ad Γ 177)), (1, .int x1), (2, .int x2)]) X dX11_nextTable_3 rfl (by decide) rfl ?_
  obtain ⟨n, h⟩ := h
  refine wp_sub X [1, 2, 0] rfl ?_
  refine w_Model_nextTable_L4 X Y  ?_ n _ _ _ h
  · intro z33_x3 I J h
    exact w_Model_nextTable_b33 X Y  h

theorem c_Model_nextTable {l : Launch} {g : GE} (hg : Inj g) {I : MI} {J : MJ} {Q : Int32 → MI → MJ → Prop} {x1 : Int32} {x2 : Int32}  (h : f_Model_nextTable x1 x2 I J Q) : Cm l g yX11_nextTable cX11_nextTable 4 (Option.some Jvm.ClassFile.FieldType.boolean) 0 [.ref (g.1 177), .int x1, .int x2] I J (Pi Q) := by
  refine Cm.of (As := fun ad => [.ref (ad 177), .int x1, .int x2]) hg pn_X11 (Nat.le_of_ble_eq_true rfl) ?_
  exact (fun Γ _ _ X Y => w_Model_nextTable_b0 X Y  h)
theorem cv_Model_nextTable {Γ : Ctx} {cc : ByteArray} {nL d pc index : Nat} {own : String} {L : List (Nat × Value)} {rest : List Value} {I : MI} {J : MJ} {Q : Int32 → MI → MJ → Prop} {x1 : Int32} {x2 : Int32} (X : Cx Γ cc nL own d) (hd : decode cc pc = .ok (.invokevirtual index, 3)) (hlink : Cond.methodLink own index yX11_nextTable ∈ TT)  (h : f_Model_nextTable x1 x2 I J Q) (hrest : (rest.map fun v => v.category).sum ≤ 8) (hdd : 0 + 1 ≤ d) (kk : ∀ (r : Int32) (I' : MI) (J' : MJ), Q r I' J' → Wp Γ nL (pc + 3) L (.int r :: rest) I' J') : Wp Γ nL pc L (.int x2 :: .int x1 :: .ref (ad Γ 177) :: rest) I J :=
  wp_callV (As := [.int x1, .int x2]) (rest := rest) (T := TX11) (N := 62) X hd hlink mv_X11_nextTable sh_177 (by decide) rfl (c_Model_nextTable X.inj  h) rfl rfl hrest hdd (fun v I' J' hv => by obtain ⟨r, rfl, hq⟩ := hv; exact kk r I' J' hq)
theorem dX11_findTable_0 : decode cX11_findTable 0 = .ok (.iconst 0, 1) := by decide +kernel
theorem dX11_findTable_1 : decode cX11_findTable 1 = .ok (.istore_n 3, 1) := by decide +kernel
theorem dX11_findTable_2 : decode cX11_findTable 2 = .ok (.iload_n 3, 1) := by decide +kernel
theorem dX11_findTable_3 : decode cX11_findTable 3 = .ok (.iload_n 1, 1) := by decide +kernel
theorem dX11_findTable_4 : decode cX11_findTable 4 = .ok (.iload_n 2, 1) := by decide +kernel
theorem dX11_findTable_5 : decode cX11_findTable 5 = .ok (.imul, 1) := by decide +kernel
theorem dX11_findTable_6 : decode cX11_findTable 6 = .ok (.if_icmp .ge 16, 3) := by decide +kernel
theorem dX11_findTable_9 : decode cX11_findTable 9 = .ok (.aload_n 0, 1) := by decide +kernel
theorem dX11_findTable_10 : decode cX11_findTable 10 = .ok (.getfield 135, 3) := by decide +kernel
theorem dX11_findTable_13 : decode cX11_findTable 13 = .ok (.iload_n 3, 1) := by decide +kernel
theorem dX11_findTable_14 : decode cX11_findTable 14 = .ok (.iconst 0, 1) := by decide +kernel
theorem dX11_findTable_15 : decode cX11_findTable 15 = .ok (.iastore, 1) := by decide +kernel
theorem dX11_findTable_16 : decode cX11_findTable 16 = .ok (.iinc 3 1, 3) := by decide +kernel
theorem dX11_findTable_19 : decode cX11_findTable 19 = .ok (.goto (-17), 3) := by decide +kernel
theorem dX11_findTable_22 : decode cX11_findTable 22 = .ok (.aload_n 0, 1) := by decide +kernel
theorem dX11_findTable_23 : decode cX11_findTable 23 = .ok (.iload_n 2, 1) := by decide +kernel
theorem dX11_findTable_24 : decode cX11_findTable 24 = .ok (.invokevirtual 416, 3) := by decide +kernel
theorem dX11_findTable_27 : decode cX11_findTable 27 = .ok (.istore_n 3, 1) := by decide +kernel
theorem dX11_findTable_28 : decode cX11_findTable 28 = .ok (.iconst 1, 1) := by decide +kernel
theorem dX11_findTable_29 : decode cX11_findTable 29 = .ok (.istore 4, 2) := by decide +kernel
theorem dX11_findTable_31 : decode cX11_findTable 31 = .ok (.iload_n 3, 1) := by decide +kernel
theorem dX11_findTable_32 : decode cX11_findTable 32 = .ok (.ifCond .ne 40, 3) := by decide +kernel
theorem dX11_findTable_35 : decode cX11_findTable 35 = .ok (.iload 4, 2) := by decide +kernel
theorem dX11_findTable_37 : decode cX11_findTable 37 = .ok (.ifCond .eq 35, 3) := by decide +kernel
theorem dX11_findTable_40 : decode cX11_findTable 40 = .ok (.aload_n 0, 1) := by decide +kernel
theorem dX11_findTable_41 : decode cX11_findTable 41 = .ok (.iload_n 1, 1) := by decide +kernel
theorem dX11_findTable_42 : decode cX11_findTable 42 = .ok (.iload_n 1, 1) := by decide +kernel
theorem dX11_findTable_43 : decode cX11_findTable 43 = .ok (.iload_n 2, 1) := by decide +kernel
theorem dX11_findTable_44 : decode cX11_findTable 44 = .ok (.imul, 1) := by decide +kernel
theorem dX11_findTable_45 : decode cX11_findTable 45 = .ok (.invokevirtual 419, 3) := by decide +kernel
theorem dX11_findTable_48 : decode cX11_findTable 48 = .ok (.istore 4, 2) := by decide +kernel
theorem dX11_findTable_50 : decode cX11_findTable 50 = .ok (.iload 4, 2) := by decide +kernel
theorem dX11_findTable_52 : decode cX11_findTable 52 = .ok (.ifCond .eq 15, 3) := by decide +kernel
theorem dX11_findTable_55 : decode cX11_findTable 55 = .ok (.aload_n 0, 1) := by decide +kernel
theorem dX11_findTable_56 : decode cX11_findTable 56 = .ok (.iload_n 2, 1) := by decide +kernel
theorem dX11_findTable_57 : decode cX11_findTable 57 = .ok (.invokevirtual 416, 3) := by decide +kernel
theorem dX11_findTable_60 : decode cX11_findTable 60 = .ok (.ifCond .eq 7, 3) := by decide +kernel
theorem dX11_findTable_63 : decode cX11_findTable 63 = .ok (.iconst 1, 1) := by decide +kernel
theorem dX11_findTable_64 : decode cX11_findTable 64 = .ok (.goto 4, 3) := by decide +kernel
theorem dX11_findTable_67 : decode cX11_findTable 67 = .ok (.iconst 0, 1) := by decide +kernel
theorem dX11_findTable_68 : decode cX11_findTable 68 = .ok (.istore_n 3, 1) := by decide +kernel
theorem dX11_findTable_69 : decode cX11_findTable 69 = .ok (.goto (-38), 3) := by decide +kernel
theorem dX11_findTable_72 : decode cX11_findTable 72 = .ok (.iload_n 3, 1) := by decide +kernel
theorem dX11_findTable_73 : decode cX11_findTable 73 = .ok (.ireturn, 1) := by decide +kernel
def f_Model_findTable_b68 (x4 : Int32) (s0 : Int32) (kh : Int32 → Int32 → MI → MJ → Prop) (I : MI) (J : MJ) : Prop :=
  kh s0 x4 I J
def f_Model_findTable_b67 (x4 : Int32) (kh : Int32 → Int32 → MI → MJ → Prop) (I : MI) (J : MJ) : Prop :=
  f_Model_findTable_b68 x4 0 kh I J
def f_Model_findTable_L31 (x1 : Int32) (x2 : Int32) (k72 : Int32 → MI → MJ → Prop) : Nat → Int32 → Int32 → MI → MJ → Prop
  | 0, _, _, _, _ => False
  | nf31 + 1, x3, x4, I, J =>
  (if x3 = 0 then (if x4 = 0 then k72 x3 I J else f_Model_nextTable x1 (x1 * x2) I J (fun r45 I45 J45 => (if r45 = 0 then f_Model_findTable_b67 r45 (f_Model_findTable_L31 x1 x2 k72 nf31) I45 J45 else f_Model_isRight x2 I45 J45 (fun r57 I57 J57 => (if r57 = 0 then f_Model_findTable_b67 r45 (f_Model_findTable_L31 x1 x2 k72 nf31) I57 J57 else f_Model_findTable_b68 r45 1 (f_Model_findTable_L31 x1 x2 k72 nf31) I57 J57))))) else k72 x3 I J)
def f_Model_findTable_L2 (x1 : Int32) (x2 : Int32) (k22 : MI → MJ → Prop) : Nat → Int32 → MI → MJ → Prop
  | 0, _, _, _ => False
  | nf2 + 1, x3, I, J =>
  (if (x1 * x2) ≤ x3 then k22 I J else vp_in x3 64 ∧ ∀ I15 : MI, I15 = sI I 219 (upd (I 219) x3.toNatClampNeg 0) → ∀ t16 : Int32, t16 = x3 + 1 → f_Model_findTable_L2 x1 x2 k22 nf2 t16 I15 J)
def f_Model_findTable (x1 : Int32) (x2 : Int32) (I : MI) (J : MJ) (Q : Int32 → MI → MJ → Prop) : Prop :=
  ∃ n, f_Model_findTable_L2 x1 x2 (fun (I : MI) (J : MJ) => f_Model_isRight x2 I J (fun r24 I24 J24 => ∃ n, f_Model_findTable_L31 x1 x2 (fun (z72_x3 : Int32) (I : MI) (J : MJ) => (z72_x3 = 0 ∨ z72_x3 = 1) ∧ Q z72_x3 I J) n r24 1 I24 J24)) n 0 I J
set_option maxRecDepth 100000 in
set_option maxHeartbeats 4000000 in
theorem w_Model_findTable_b68 {Γ : Ctx} {Q : Int32 → MI → MJ → Prop} {x1 : Int32} {x2 : Int32} {x4 : Int32} {s0 : Int32} {kh : Int32 → Int32 → MI → MJ → Prop} (X : Cx Γ cX11_findTable 5 RX11 2) (Y : Rt Γ (Pi Q) (Option.some Jvm.ClassFile.FieldType.boolean))  (hkh : ∀ (x3 : Int32) (x4 : Int32) (I : MI) (J : MJ), kh x3 x4 I J → Wp Γ 5 31 [(0, .ref (ad Γ 177)), (1, .int x1), (2, .int x2), (3, .int x3), (4, .int x4)] [] I J) {I : MI} {J : MJ} (h : f_Model_findTable_b68 x4 s0 kh I J) : Wp Γ 5 68 [(0, .ref (ad Γ 177)), (1, .int x1), (2, .int x2), (4, .int x4)] [.int s0] I J := by
  unfold f_Model_findTable_b68 at h
  refine wp_istore_n (L' := [(3, .int s0), (0, .ref (ad Γ 177)), (1, .int x1), (2, .int x2), (4, .int x4)]) X dX11_findTable_68 rfl (by decide) rfl ?_
  refine wp_goto (tgt := 31) X dX11_findTable_69 (by decide) ?_
  refine wp_sub X [1, 2, 3, 0, 4] rfl ?_
  exact hkh _ _ _ _ h

set_option maxRecDepth 100000 in
set_option maxHeartbeats 4000000 in
theorem w_Model_findTable_b67 {Γ : Ctx} {Q : Int32 → MI → MJ → Prop} {x1 : Int32} {x2 : Int32} {x4 : Int32} {kh : Int32 → Int32 → MI → MJ → Prop} (X : Cx Γ cX11_findTable 5 RX11 2) (Y : Rt Γ (Pi Q) (Option.some Jvm.ClassFile.FieldType.boolean))  (hkh : ∀ (x3 : Int32) (x4 : Int32) (I : MI) (J : MJ), kh x3 x4 I J → Wp Γ 5 31 [(0, .ref (ad Γ 177)), (1, .int x1), (2, .int x2), (3, .int x3), (4, .int x4)] [] I J) {I : MI} {J : MJ} (h : f_Model_findTable_b67 x4 kh I J) : Wp Γ 5 67 [(0, .ref (ad Γ 177)), (1, .int x1), (2, .int x2), (4, .int x4)] [] I J := by
  unfold f_Model_findTable_b67 at h
  refine wp_iconst X dX11_findTable_67 ic_0 ?_
  exact w_Model_findTable_b68 X Y hkh h

set_option maxRecDepth 100000 in
set_option maxHeartbeats 4000000 in
theorem w_Model_findTable_L31 {Γ : Ctx} {Q : Int32 → MI → MJ → Prop} {x1 : Int32} {x2 : Int32} {k72 : Int32 → MI → MJ → Prop} (X : Cx Γ cX11_findTable 5 RX11 2) (Y : Rt Γ (Pi Q) (Option.some Jvm.ClassFile.FieldType.boolean))  (hk72 : ∀ (x3 : Int32) (I : MI) (J : MJ), k72 x3 I J → Wp Γ 5 72 [(3, .int x3)] [] I J) : ∀ (n : Nat) (x3 : Int32) (x4 : Int32) (I : MI) (J : MJ), f_Model_findTable_L31 x1 x2 k72 n x3 x4 I J → Wp Γ 5 31 [(0, .ref (ad Γ 177)), (1, .int x1), (2, .int x2), (3, .int x3), (4, .int x4)] [] I J := by
  intro n
  induction n with
  | zero => intro x3 x4 I J h; exact absurd h (by simp [f_Model_findTable_L31])
  | succ n ih =>
  intro x3 x4 I J h
  unfold f_Model_findTable_L31 at h
  refine wp_iload_n X dX11_findTable_31 3 rfl ?_
  refine wp_if_ne (tgt := 72) X dX11_findTable_32 (by decide) (fun hc => ?_) (fun hc => ?_)
  · have h := ite_f h hc
    refine wp_sub X [3] rfl ?_
    exact hk72 _ _ _ h
  · have h := ite_t h hc
    refine wp_iload X dX11_findTable_35 4 rfl ?_
    refine wp_if_eq (tgt := 72) X dX11_findTable_37 (by decide) (fun hc => ?_) (fun hc => ?_)
    · have h := ite_t h hc
      refine wp_sub X [3] rfl ?_
      exact hk72 _ _ _ h
    · have h := ite_f h hc
      refine wp_aload_n X dX11_findTable_40 0 rfl ?_
      refine wp_iload_n X dX11_findTable_41 1 rfl ?_
      refine wp_iload_n X dX11_findTable_42 1 rfl ?_
      refine wp_iload_n X dX11_findTable_43 2 rfl ?_
      refine wp_imul X dX11_findTable_44 ?_
      refine cv_Model_nextTable X dX11_findTable_45 ml_X11_419  h (Nat.le_of_ble_eq_true rfl) (by decide) (fun r45 I45 J45 h => ?_)
      refine wp_istore (L' := [(4, .int r45), (0, .ref (ad Γ 177)), (1, .int x1), (2, .int x2), (3, .int x3)]) X dX11_findTable_48 (by decide) rfl ?_
      refine wp_iload X dX11_findTable_50 0 rfl ?_
      refine wp_if_eq (tgt := 67) X dX11_findTable_52 (by decide) (fun hc => ?_) (fun hc => ?_)
      · have h := ite_t h hc
        refine wp_sub X [1, 2, 3, 0] rfl ?_
        exact w_Model_findTable_b67 X Y ih h
      · have h := ite_f h hc
        refine wp_aload_n X dX11_findTable_55 1 rfl ?_
        refine wp_iload_n X dX11_findTable_56 3 rfl ?_
        refine cv_Model_isRight X dX11_findTable_57 ml_X11_416  h (Nat.le_of_ble_eq_true rfl) (by decide) (fun r57 I57 J57 h => ?_)
        refine wp_if_eq (tgt := 67) X dX11_findTable_60 (by decide) (fun hc => ?_) (fun hc => ?_)
        · have h := ite_t h hc
          refine wp_sub X [1, 2, 3, 0] rfl ?_
          exact w_Model_findTable_b67 X Y ih h
        · have h := ite_f h hc
          refine wp_iconst X dX11_findTable_63 ic_1 ?_
          refine wp_goto (tgt := 68) X dX11_findTable_64 (by decide) ?_
          refine wp_sub X [1, 2, 3, 0] rfl ?_
          exact w_Model_findTable_b68 X Y ih h

set_option maxRecDepth 100000 in
set_option maxHeartbeats 4000000 in
theorem w_Model_findTable_L2 {Γ : Ctx} {Q : Int32 → MI → MJ → Prop} {x1 : Int32} {x2 : Int32} {k22 : MI → MJ → Prop} (X : Cx Γ cX11_findTable 5 RX11 2) (Y : Rt Γ (Pi Q) (Option.some Jvm.ClassFile.FieldType.boolean))  (hk22 : ∀ (I : MI) (J : MJ), k22 I J → Wp Γ 5 22 [(0, .ref (ad Γ 177)), (1, .int x1), (2, .int x2)] [] I J) : ∀ (n : Nat) (x3 : Int32) (I : MI) (J : MJ), f_Model_findTable_L2 x1 x2 k22 n x3 I J → Wp Γ 5 2 [(0, .ref (ad Γ 177)), (1, .int x1), (2, .int x2), (3, .int x3)] [] I J := by
  intro n
  induction n with
  | zero => intro x3 I J h; exact absurd h (by simp [f_Model_findTable_L2])
  | succ n ih =>
  intro x3 I J h
  unfold f_Model_findTable_L2 at h
  refine wp_iload_n X dX11_findTable_2 3 rfl ?_
  refine wp_iload_n X dX11_findTable_3 1 rfl ?_
  refine wp_iload_n X dX11_findTable_4 2 rfl ?_
  refine wp_imul X dX11_findTable_5 ?_
  refine wp_icmp_ge (tgt := 22) X dX11_findTable_6 (by decide) (fun hc => ?_) (fun hc => ?_)
  · have h := ite_t h hc
    refine wp_sub X [0, 1, 2] rfl ?_
    exact hk22 _ _ h
  · have h := ite_f h hc
    refine wp_aload_n X dX11_findTable_9 0 rfl ?_
    refine gf_X11_135 (o' := 219) X sh_177 rfl dX11_findTable_10 ?_
    refine wp_iload_n X dX11_findTable_13 3 rfl ?_
    refine wp_iconst X dX11_findTable_14 ic_0 ?_
    obtain ⟨hb15, h⟩ := h
    refine wp_iast X sh_219 hb15 dX11_findTable_15 ?_
    refine wp_memI (fun I15 eI15 => ?_)
    have h := h I15 eI15
    obtain ⟨t16, et16⟩ : ∃ y : Int32, y = x3 + 1 := ⟨_, rfl⟩
    have h := h t16 et16
    refine wp_iinc (L' := [(3, .int t16), (0, .ref (ad Γ 177)), (1, .int x1), (2, .int x2)]) X dX11_findTable_16 3 rfl (ii_1 et16) (by decide) rfl ?_
    refine wp_goto (tgt := 2) X dX11_findTable_19 (by decide) ?_
    refine wp_sub X [1, 2, 3, 0] rfl ?_
    exact ih _ _ _ h

set_option maxRecDepth 100000 in
set_option maxHeartbeats 4000000 in
theorem w_Model_findTable_b0 {Γ : Ctx} {Q : Int32 → MI → MJ → Prop} {x1 : Int32} {x2 : Int32}  (X : Cx Γ cX11_findTable 5 RX11 2) (Y : Rt Γ (Pi Q) (Option.some Jvm.ClassFile.FieldType.boolean))   {I : MI} {J : MJ} (h : f_Model_findTable x1 x2 I J Q) : Wp Γ 5 0 [(0, .ref (ad Γ 177)), (1, .int x1), (2, .int x2)] [] I J := by
  unfold f_Model_findTable at h
  refine wp_iconst X dX11_findTable_0 ic_0 ?_
  refine wp_istore_n (L' := [(3, .int 0), (0, .ref (ad Γ 177)), (1, .int x1), (2, .int x2)]) X dX11_findTable_1 rfl (by decide) rfl ?_
  obtain ⟨n, h⟩ := h
  refine wp_sub X [1, 2, 3, 0] rfl ?_
  refine w_Model_findTable_L2 X Y  ?_ n _ _ _ h
  · intro I J h
    refine wp_aload_n X dX11_findTable_22 0 rfl ?_
    refine wp_iload_n X dX11_findTable_23 2 rfl ?_
    refine cv_Model_isRight X dX11_findTable_24 ml_X11_416  h (Nat.le_of_ble_eq_true rfl) (by decide) (fun r24 I24 J24 h => ?_)
    refine wp_istore_n (L' := [(3, .int r24), (0, .ref (ad Γ 177)), (1, .int x1), (2, .int x2)]) X dX11_findTable_27 rfl (by decide) rfl ?_
    refine wp_iconst X dX11_findTable_28 ic_1 ?_
    refine wp_istore (L' := [(4, .int 1), (3, .int r24), (0, .ref (ad Γ 177)), (1, .int x1), (2, .int x2)]) X dX11_findTable_29 (by decide) rfl ?_
    obtain ⟨n, h⟩ := h
    refine wp_sub X [2, 3, 4, 1, 0] rfl ?_
    refine w_Model_findTable_L31 X Y  ?_ n _ _ _ _ h
    · intro z72_x3 I J h
      refine wp_iload_n X dX11_findTable_72 0 rfl ?_
      exact wp_zret X Y dX11_findTable_73 h.1 ⟨_, rfl, h.2⟩

theorem c_Model_findTable {l : Launch} {g : GE} (hg : Inj g) {I : MI} {J : MJ} {Q : Int32 → MI → MJ → Prop} {x1 : Int32} {x2 : Int32}  (h : f_Model_findTable x1 x2 I J Q) : Cm l g yX11_findTable cX11_findTable 5 (Option.some Jvm.ClassFile.FieldType.boolean) 2 [.ref (g.1 177), .int x1, .int x2] I J (Pi Q) := by
  refine Cm.of (As := fun ad => [.ref (ad 177), .int x1, .int x2]) hg pn_X11 (Nat.le_of_ble_eq_true rfl) ?_
  exact (fun Γ _ _ X Y => w_Model_findTable_b0 X Y  h)
theorem cv_Model_findTable {Γ : Ctx} {cc : ByteArray} {nL d pc index : Nat} {own : String} {L : List (Nat × Value)} {rest : List Value} {I : MI} {J : MJ} {Q : Int32 → MI → MJ → Prop} {x1 : Int32} {x2 : Int32} (X : Cx Γ cc nL own d) (hd : decode cc pc = .ok (.invokevirtual index, 3)) (hlink : Cond.methodLink own index yX11_findTable ∈ TT)  (h : f_Model_findTable x1 x2 I J Q) (hrest : (rest.map fun v => v.category).sum ≤ 8) (hdd : 2 + 1 ≤ d) (kk : ∀ (r : Int32) (I' : MI) (J' : MJ), Q r I' J' → Wp Γ nL (pc + 3) L (.int r :: rest) I' J') : Wp Γ nL pc L (.int x2 :: .int x1 :: .ref (ad Γ 177) :: rest) I J :=
  wp_callV (As := [.int x1, .int x2]) (rest := rest) (T := TX11) (N := 62) X hd hlink mv_X11_findTable sh_177 (by decide) rfl (c_Model_findTable X.inj  h) rfl rfl hrest hdd (fun v I' J' hv => by obtain ⟨r, rfl, hq⟩ := hv; exact kk r I' J' hq)
theorem dX11_isSmall_0 : decode cX11_isSmall 0 = .ok (.lconst 1, 1) := by decide +kernel
theorem dX11_isSmall_1 : decode cX11_isSmall 1 = .ok (.lstore_n 2, 1) := by decide +kernel
theorem dX11_isSmall_2 : decode cX11_isSmall 2 = .ok (.iconst 0, 1) := by decide +kernel
theorem dX11_isSmall_3 : decode cX11_isSmall 3 = .ok (.istore 4, 2) := by decide +kernel
theorem dX11_isSmall_5 : decode cX11_isSmall 5 = .ok (.iload 4, 2) := by decide +kernel
theorem dX11_isSmall_7 : decode cX11_isSmall 7 = .ok (.iload_n 1, 1) := by decide +kernel
theorem dX11_isSmall_8 : decode cX11_isSmall 8 = .ok (.if_icmp .ge 22, 3) := by decide +kernel
theorem dX11_isSmall_11 : decode cX11_isSmall 11 = .ok (.lload_n 2, 1) := by decide +kernel
theorem dX11_isSmall_12 : decode cX11_isSmall 12 = .ok (.ldc2_w 414, 3) := by decide +kernel
theorem dX11_isSmall_15 : decode cX11_isSmall 15 = .ok (.lcmp, 1) := by decide +kernel
theorem dX11_isSmall_16 : decode cX11_isSmall 16 = .ok (.ifCond .gt 14, 3) := by decide +kernel
theorem dX11_isSmall_19 : decode cX11_isSmall 19 = .ok (.lload_n 2, 1) := by decide +kernel
theorem dX11_isSmall_20 : decode cX11_isSmall 20 = .ok (.iload_n 0, 1) := by decide +kernel
theorem dX11_isSmall_21 : decode cX11_isSmall 21 = .ok (.i2l, 1) := by decide +kernel
theorem dX11_isSmall_22 : decode cX11_isSmall 22 = .ok (.lmul, 1) := by decide +kernel
theorem dX11_isSmall_23 : decode cX11_isSmall 23 = .ok (.lstore_n 2, 1) := by decide +kernel
theorem dX11_isSmall_24 : decode cX11_isSmall 24 = .ok (.iinc 4 1, 3) := by decide +kernel
theorem dX11_isSmall_27 : decode cX11_isSmall 27 = .ok (.goto (-22), 3) := by decide +kernel
theorem dX11_isSmall_30 : decode cX11_isSmall 30 = .ok (.lload_n 2, 1) := by decide +kernel
theorem dX11_isSmall_31 : decode cX11_isSmall 31 = .ok (.ldc2_w 414, 3) := by decide +kernel
theorem dX11_isSmall_34 : decode cX11_isSmall 34 = .ok (.lcmp, 1) := by decide +kernel
theorem dX11_isSmall_35 : decode cX11_isSmall 35 = .ok (.ifCond .gt 7, 3) := by decide +kernel
theorem dX11_isSmall_38 : decode cX11_isSmall 38 = .ok (.iconst 1, 1) := by decide +kernel
theorem dX11_isSmall_39 : decode cX11_isSmall 39 = .ok (.goto 4, 3) := by decide +kernel
theorem dX11_isSmall_42 : decode cX11_isSmall 42 = .ok (.iconst 0, 1) := by decide +kernel
theorem dX11_isSmall_43 : decode cX11_isSmall 43 = .ok (.ireturn, 1) := by decide +kernel
def f_Model_isSmall_b30 (x2 : Int64) (Q : Int32 → MI → MJ → Prop) (I : MI) (J : MJ) : Prop :=
  (if 20000 < x2 then Q 0 I J else Q 1 I J)
def f_Model_isSmall_L5 (x0 : Int32) (x1 : Int32) (k30 : Int64 → MI → MJ → Prop) : Nat → Int64 → Int32 → MI → MJ → Prop
  | 0, _, _, _, _ => False
  | nf5 + 1, x2, x4, I, J =>
  (if x1 ≤ x4 then k30 x2 I J else (if 20000 < x2 then k30 x2 I J else ∀ t23 : Int64, t23 = x2 * x0.toInt64 → ∀ t24 : Int32, t24 = x4 + 1 → f_Model_isSmall_L5 x0 x1 k30 nf5 t23 t24 I J))
def f_Model_isSmall (x0 : Int32) (x1 : Int32) (I : MI) (J : MJ) (Q : Int32 → MI → MJ → Prop) : Prop :=
  ∃ n, f_Model_isSmall_L5 x0 x1 (fun (z30_x2 : Int64) (I : MI) (J : MJ) => f_Model_isSmall_b30 z30_x2 Q I J) n 1 0 I J
set_option maxRecDepth 100000 in
set_option maxHeartbeats 4000000 in
theorem w_Model_isSmall_b30 {Γ : Ctx} {Q : Int32 → MI → MJ → Prop} {x2 : Int64}  (X : Cx Γ cX11_isSmall 5 RX11 0) (Y : Rt Γ (Pi Q) (Option.some Jvm.ClassFile.FieldType.boolean))   {I : MI} {J : MJ} (h : f_Model_isSmall_b30 x2 Q I J) : Wp Γ 5 30 [(2, .long x2)] [] I J := by
  unfold f_Model_isSmall_b30 at h
  refine wp_lload_n X dX11_isSmall_30 0 rfl ?_
  refine wp_ldc2 X kl_X11_414 dX11_isSmall_31 ?_
  refine wp_lcmp_gt (tgt := 42) X dX11_isSmall_34 dX11_isSmall_35 (by decide) (fun hc => ?_) (fun hc => ?_)
  · have h := ite_t h hc
    refine wp_iconst X dX11_isSmall_42 ic_0 ?_
    exact wp_zret X Y dX11_isSmall_43 (by decide) ⟨_, rfl, h⟩
  · have h := ite_f h hc
    refine wp_iconst X dX11_isSmall_38 ic_1 ?_
    refine wp_goto (tgt := 43) X dX11_isSmall_39 (by decide) ?_
    exact wp_zret X Y dX11_isSmall_43 (by decide) ⟨_, rfl, h⟩

set_option maxRecDepth 100000 in
set_option maxHeartbeats 4000000 in
theorem w_Model_isSmall_L5 {Γ : Ctx} {Q : Int32 → MI → MJ → Prop} {x0 : Int32} {x1 : Int32} {k30 : Int64 → MI → MJ → Prop} (X : Cx Γ cX11_isSmall 5 RX11 0) (Y : Rt Γ (Pi Q) (Option.some Jvm.ClassFile.FieldType.boolean))  (hk30 : ∀ (x2 : Int64) (I : MI) (J : MJ), k30 x2 I J → Wp Γ 5 30 [(2, .long x2)] [] I J) : ∀ (n : Nat) (x2 : Int64) (x4 : Int32) (I : MI) (J : MJ), f_Model_isSmall_L5 x0 x1 k30 n x2 x4 I J → Wp Γ 5 5 [(0, .int x0), (1, .int x1), (2, .long x2), (4, .int x4)] [] I J := by
  intro n
  induction n with
  | zero => intro x2 x4 I J h; exact absurd h (by simp [f_Model_isSmall_L5])
  | succ n ih =>
  intro x2 x4 I J h
  unfold f_Model_isSmall_L5 at h
  refine wp_iload X dX11_isSmall_5 3 rfl ?_
  refine wp_iload_n X dX11_isSmall_7 1 rfl ?_
  refine wp_icmp_ge (tgt := 30) X dX11_isSmall_8 (by decide) (fun hc => ?_) (fun hc => ?_)
  · have h := ite_t h hc
    refine wp_sub X [2] rfl ?_
    exact hk30 _ _ _ h
  · have h := ite_f h hc
    refine wp_lload_n X dX11_isSmall_11 2 rfl ?_
    refine wp_ldc2 X kl_X11_414 dX11_isSmall_12 ?_
    refine wp_lcmp_gt (tgt := 30) X dX11_isSmall_15 dX11_isSmall_16 (by decide) (fun hc => ?_) (fun hc => ?_)
    · have h := ite_t h hc
      refine wp_sub X [2] rfl ?_
      exact hk30 _ _ _ h
    · have h := ite_f h hc
      refine wp_lload_n X dX11_isSmall_19 2 rfl ?_
      refine wp_iload_n X dX11_isSmall_20 0 rfl ?_
      refine wp_i2l X dX11_isSmall_21 ?_
      refine wp_lmul X dX11_isSmall_22 ?_
      refine wp_topl (fun t23 et23 => ?_)
      have h := h t23 et23
      refine wp_lstore_n (L' := [(2, .long t23), (0, .int x0), (1, .int x1), (4, .int x4)]) X dX11_isSmall_23 rfl (by decide) rfl ?_
      obtain ⟨t24, et24⟩ : ∃ y : Int32, y = x4 + 1 := ⟨_, rfl⟩
      have h := h t24 et24
      refine wp_iinc (L' := [(4, .int t24), (2, .long t23), (0, .int x0), (1, .int x1)]) X dX11_isSmall_24 3 rfl (ii_1 et24) (by decide) rfl ?_
      refine wp_goto (tgt := 5) X dX11_isSmall_27 (by decide) ?_
      refine wp_sub X [2, 3, 1, 0] rfl ?_
      exact ih _ _ _ _ h

set_option maxRecDepth 100000 in
set_option maxHeartbeats 4000000 in
theorem w_Model_isSmall_b0 {Γ : Ctx} {Q : Int32 → MI → MJ → Prop} {x0 : Int32} {x1 : Int32}  (X : Cx Γ cX11_isSmall 5 RX11 0) (Y : Rt Γ (Pi Q) (Option.some Jvm.ClassFile.FieldType.boolean))   {I : MI} {J : MJ} (h : f_Model_isSmall x0 x1 I J Q) : Wp Γ 5 0 [(0, .int x0), (1, .int x1)] [] I J := by
  unfold f_Model_isSmall at h
  refine wp_lconst X dX11_isSmall_0 lc_1 ?_
  refine wp_lstore_n (L' := [(2, .long 1), (0, .int x0), (1, .int x1)]) X dX11_isSmall_1 rfl (by decide) rfl ?_
  refine wp_iconst X dX11_isSmall_2 ic_0 ?_
  refine wp_istore (L' := [(4, .int 0), (2, .long 1), (0, .int x0), (1, .int x1)]) X dX11_isSmall_3 (by decide) rfl ?_
  obtain ⟨n, h⟩ := h
  refine wp_sub X [2, 3, 1, 0] rfl ?_
  refine w_Model_isSmall_L5 X Y  ?_ n _ _ _ _ h
  · intro z30_x2 I J h
    exact w_Model_isSmall_b30 X Y  h

theorem c_Model_isSmall {l : Launch} {g : GE} (hg : Inj g) {I : MI} {J : MJ} {Q : Int32 → MI → MJ → Prop} {x0 : Int32} {x1 : Int32}  (h : f_Model_isSmall x0 x1 I J Q) : Cm l g yX11_isSmall cX11_isSmall 5 (Option.some Jvm.ClassFile.FieldType.boolean) 0 [.int x0, .int x1] I J (Pi Q) := by
  refine Cm.of (As := fun ad => [.int x0, .int x1]) hg pn_X11 (Nat.le_of_ble_eq_true rfl) ?_
  exact (fun Γ _ _ X Y => w_Model_isSmall_b0 X Y  h)
theorem cs_Model_isSmall {Γ : Ctx} {cc : ByteArray} {nL d pc index : Nat} {own : String} {L : List (Nat × Value)} {rest : List Value} {I : MI} {J : MJ} {Q : Int32 → MI → MJ → Prop} {x0 : Int32} {x1 : Int32} (X : Cx Γ cc nL own d) (hd : decode cc pc = .ok (.invokestatic index, 3)) (hlink : Cond.methodLink own index yX11_isSmall ∈ TT)  (h : f_Model_isSmall x0 x1 I J Q) (hrest : (rest.map fun v => v.category).sum ≤ 8) (hdd : 0 + 1 ≤ d) (kk : ∀ (r : Int32) (I' : MI) (J' : MJ), Q r I' J' → Wp Γ nL (pc + 3) L (.int r :: rest) I' J') : Wp Γ nL pc L (.int x1 :: .int x0 :: rest) I J :=
  wp_callS (As := [.int x0, .int x1]) (rest := rest) X hd hlink mv_X11_isSmall (c_Model_isSmall X.inj  h) rfl rfl hrest hdd (fun v I' J' hv => by obtain ⟨r, rfl, hq⟩ := hv; exact kk r I' J' hq)
theorem dX11_fewest_0 : decode cX11_fewest 0 = .ok (.iload_n 1, 1) := by decide +kernel
theorem dX11_fewest_1 : decode cX11_fewest 1 = .ok (.invokestatic 145, 3) := by decide +kernel
theorem dX11_fewest_4 : decode cX11_fewest 4 = .ok (.ifCond .ne 9, 3) := by decide +kernel
theorem dX11_fewest_7 : decode cX11_fewest 7 = .ok (.aload_n 0, 1) := by decide +kernel
theorem dX11_fewest_8 : decode cX11_fewest 8 = .ok (.iconst 2, 1) := by decide +kernel
theorem dX11_fewest_9 : decode cX11_fewest 9 = .ok (.invokevirtual 219, 3) := by decide +kernel
theorem dX11_fewest_12 : decode cX11_fewest 12 = .ok (.ireturn, 1) := by decide +kernel
theorem dX11_fewest_13 : decode cX11_fewest 13 = .ok (.aload_n 0, 1) := by decide +kernel
theorem dX11_fewest_14 : decode cX11_fewest 14 = .ok (.getfield 405, 3) := by decide +kernel
theorem dX11_fewest_17 : decode cX11_fewest 17 = .ok (.ifCond .ne 9, 3) := by decide +kernel
theorem dX11_fewest_20 : decode cX11_fewest 20 = .ok (.aload_n 0, 1) := by decide +kernel
theorem dX11_fewest_21 : decode cX11_fewest 21 = .ok (.iconst 1, 1) := by decide +kernel
theorem dX11_fewest_22 : decode cX11_fewest 22 = .ok (.invokevirtual 219, 3) := by decide +kernel
theorem dX11_fewest_25 : decode cX11_fewest 25 = .ok (.ireturn, 1) := by decide +kernel
theorem dX11_fewest_26 : decode cX11_fewest 26 = .ok (.aload_n 0, 1) := by decide +kernel
theorem dX11_fewest_27 : decode cX11_fewest 27 = .ok (.invokevirtual 422, 3) := by decide +kernel
theorem dX11_fewest_30 : decode cX11_fewest 30 = .ok (.istore_n 2, 1) := by decide +kernel
theorem dX11_fewest_31 : decode cX11_fewest 31 = .ok (.iconst 1, 1) := by decide +kernel
theorem dX11_fewest_32 : decode cX11_fewest 32 = .ok (.istore_n 3, 1) := by decide +kernel
theorem dX11_fewest_33 : decode cX11_fewest 33 = .ok (.aload_n 0, 1) := by decide +kernel
theorem dX11_fewest_34 : decode cX11_fewest 34 = .ok (.iconst 1, 1) := by decide +kernel
theorem dX11_fewest_35 : decode cX11_fewest 35 = .ok (.iload_n 2, 1) := by decide +kernel
theorem dX11_fewest_36 : decode cX11_fewest 36 = .ok (.invokevirtual 425, 3) := by decide +kernel
theorem dX11_fewest_39 : decode cX11_fewest 39 = .ok (.istore 4, 2) := by decide +kernel
theorem dX11_fewest_41 : decode cX11_fewest 41 = .ok (.iload 4, 2) := by decide +kernel
theorem dX11_fewest_43 : decode cX11_fewest 43 = .ok (.ifCond .ne 31, 3) := by decide +kernel
theorem dX11_fewest_46 : decode cX11_fewest 46 = .ok (.iload_n 3, 1) := by decide +kernel
theorem dX11_fewest_47 : decode cX11_fewest 47 = .ok (.iconst 1, 1) := by decide +kernel
theorem dX11_fewest_48 : decode cX11_fewest 48 = .ok (.iadd, 1) := by decide +kernel
theorem dX11_fewest_49 : decode cX11_fewest 49 = .ok (.iload_n 3, 1) := by decide +kernel
theorem dX11_fewest_50 : decode cX11_fewest 50 = .ok (.iconst 1, 1) := by decide +kernel
theorem dX11_fewest_51 : decode cX11_fewest 51 = .ok (.iadd, 1) := by decide +kernel
theorem dX11_fewest_52 : decode cX11_fewest 52 = .ok (.iload_n 2, 1) := by decide +kernel
theorem dX11_fewest_53 : decode cX11_fewest 53 = .ok (.imul, 1) := by decide +kernel
theorem dX11_fewest_54 : decode cX11_fewest 54 = .ok (.invokestatic 428, 3) := by decide +kernel
theorem dX11_fewest_57 : decode cX11_fewest 57 = .ok (.ifCond .eq 17, 3) := by decide +kernel
theorem dX11_fewest_60 : decode cX11_fewest 60 = .ok (.iinc 3 1, 3) := by decide +kernel
theorem dX11_fewest_63 : decode cX11_fewest 63 = .ok (.aload_n 0, 1) := by decide +kernel
theorem dX11_fewest_64 : decode cX11_fewest 64 = .ok (.iload_n 3, 1) := by decide +kernel
theorem dX11_fewest_65 : decode cX11_fewest 65 = .ok (.iload_n 2, 1) := by decide +kernel
theorem dX11_fewest_66 : decode cX11_fewest 66 = .ok (.invokevirtual 425, 3) := by decide +kernel
theorem dX11_fewest_69 : decode cX11_fewest 69 = .ok (.istore 4, 2) := by decide +kernel
theorem dX11_fewest_71 : decode cX11_fewest 71 = .ok (.goto (-30), 3) := by decide +kernel
theorem dX11_fewest_74 : decode cX11_fewest 74 = .ok (.iload 4, 2) := by decide +kernel
theorem dX11_fewest_76 : decode cX11_fewest 76 = .ok (.ifCond .ne 9, 3) := by decide +kernel
theorem dX11_fewest_79 : decode cX11_fewest 79 = .ok (.aload_n 0, 1) := by decide +kernel
theorem dX11_fewest_80 : decode cX11_fewest 80 = .ok (.iconst 5, 1) := by decide +kernel
theorem dX11_fewest_81 : decode cX11_fewest 81 = .ok (.invokevirtual 219, 3) := by decide +kernel
theorem dX11_fewest_84 : decode cX11_fewest 84 = .ok (.ireturn, 1) := by decide +kernel
theorem dX11_fewest_85 : decode cX11_fewest 85 = .ok (.aload_n 0, 1) := by decide +kernel
theorem dX11_fewest_86 : decode cX11_fewest 86 = .ok (.iload_n 1, 1) := by decide +kernel
theorem dX11_fewest_87 : decode cX11_fewest 87 = .ok (.iconst 0, 1) := by decide +kernel
theorem dX11_fewest_88 : decode cX11_fewest 88 = .ok (.iload_n 3, 1) := by decide +kernel
theorem dX11_fewest_89 : decode cX11_fewest 89 = .ok (.iload_n 2, 1) := by decide +kernel
theorem dX11_fewest_90 : decode cX11_fewest 90 = .ok (.invokevirtual 209, 3) := by decide +kernel
theorem dX11_fewest_93 : decode cX11_fewest 93 = .ok (.iconst 0, 1) := by decide +kernel
theorem dX11_fewest_94 : decode cX11_fewest 94 = .ok (.istore 5, 2) := by decide +kernel
theorem dX11_fewest_96 : decode cX11_fewest 96 = .ok (.iload 5, 2) := by decide +kernel
theorem dX11_fewest_98 : decode cX11_fewest 98 = .ok (.iload_n 3, 1) := by decide +kernel
theorem dX11_fewest_99 : decode cX11_fewest 99 = .ok (.iload_n 2, 1) := by decide +kernel
theorem dX11_fewest_100 : decode cX11_fewest 100 = .ok (.imul, 1) := by decide +kernel
theorem dX11_fewest_101 : decode cX11_fewest 101 = .ok (.if_icmp .ge 33, 3) := by decide +kernel
theorem dX11_fewest_104 : decode cX11_fewest 104 = .ok (.aload_n 0, 1) := by decide +kernel
theorem dX11_fewest_105 : decode cX11_fewest 105 = .ok (.getfield 45, 3) := by decide +kernel
theorem dX11_fewest_108 : decode cX11_fewest 108 = .ok (.iload_n 1, 1) := by decide +kernel
theorem dX11_fewest_109 : decode cX11_fewest 109 = .ok (.iload 5, 2) := by decide +kernel
theorem dX11_fewest_111 : decode cX11_fewest 111 = .ok (.iload_n 2, 1) := by decide +kernel
theorem dX11_fewest_112 : decode cX11_fewest 112 = .ok (.idiv, 1) := by decide +kernel
theorem dX11_fewest_113 : decode cX11_fewest 113 = .ok (.iload 5, 2) := by decide +kernel
theorem dX11_fewest_115 : decode cX11_fewest 115 = .ok (.iload_n 2, 1) := by decide +kernel
theorem dX11_fewest_116 : decode cX11_fewest 116 = .ok (.irem, 1) := by decide +kernel
theorem dX11_fewest_117 : decode cX11_fewest 117 = .ok (.invokestatic 149, 3) := by decide +kernel
theorem dX11_fewest_120 : decode cX11_fewest 120 = .ok (.aload_n 0, 1) := by decide +kernel
theorem dX11_fewest_121 : decode cX11_fewest 121 = .ok (.getfield 135, 3) := by decide +kernel
theorem dX11_fewest_124 : decode cX11_fewest 124 = .ok (.iload 5, 2) := by decide +kernel
theorem dX11_fewest_126 : decode cX11_fewest 126 = .ok (.iaload, 1) := by decide +kernel
theorem dX11_fewest_127 : decode cX11_fewest 127 = .ok (.iastore, 1) := by decide +kernel
theorem dX11_fewest_128 : decode cX11_fewest 128 = .ok (.iinc 5 1, 3) := by decide +kernel
theorem dX11_fewest_131 : decode cX11_fewest 131 = .ok (.goto (-35), 3) := by decide +kernel
theorem dX11_fewest_134 : decode cX11_fewest 134 = .ok (.iconst 0, 1) := by decide +kernel
theorem dX11_fewest_135 : decode cX11_fewest 135 = .ok (.istore 5, 2) := by decide +kernel
theorem dX11_fewest_137 : decode cX11_fewest 137 = .ok (.iload 5, 2) := by decide +kernel
theorem dX11_fewest_139 : decode cX11_fewest 139 = .ok (.aload_n 0, 1) := by decide +kernel
theorem dX11_fewest_140 : decode cX11_fewest 140 = .ok (.getfield 405, 3) := by decide +kernel
theorem dX11_fewest_143 : decode cX11_fewest 143 = .ok (.if_icmp .ge 33, 3) := by decide +kernel
theorem dX11_fewest_146 : decode cX11_fewest 146 = .ok (.aload_n 0, 1) := by decide +kernel
theorem dX11_fewest_147 : decode cX11_fewest 147 = .ok (.getfield 39, 3) := by decide +kernel
theorem dX11_fewest_150 : decode cX11_fewest 150 = .ok (.bipush 14, 2) := by decide +kernel
theorem dX11_fewest_152 : decode cX11_fewest 152 = .ok (.iload_n 1, 1) := by decide +kernel
theorem dX11_fewest_153 : decode cX11_fewest 153 = .ok (.imul, 1) := by decide +kernel
theorem dX11_fewest_154 : decode cX11_fewest 154 = .ok (.aload_n 0, 1) := by decide +kernel
theorem dX11_fewest_155 : decode cX11_fewest 155 = .ok (.getfield 138, 3) := by decide +kernel
theorem dX11_fewest_158 : decode cX11_fewest 158 = .ok (.iload 5, 2) := by decide +kernel
theorem dX11_fewest_160 : decode cX11_fewest 160 = .ok (.iaload, 1) := by decide +kernel
theorem dX11_fewest_161 : decode cX11_fewest 161 = .ok (.iadd, 1) := by decide +kernel
theorem dX11_fewest_162 : decode cX11_fewest 162 = .ok (.aload_n 0, 1) := by decide +kernel
theorem dX11_fewest_163 : decode cX11_fewest 163 = .ok (.getfield 132, 3) := by decide +kernel
theorem dX11_fewest_166 : decode cX11_fewest 166 = .ok (.iload 5, 2) := by decide +kernel
theorem dX11_fewest_168 : decode cX11_fewest 168 = .ok (.iaload, 1) := by decide +kernel
theorem dX11_fewest_169 : decode cX11_fewest 169 = .ok (.iastore, 1) := by decide +kernel
theorem dX11_fewest_170 : decode cX11_fewest 170 = .ok (.iinc 5 1, 3) := by decide +kernel
theorem dX11_fewest_173 : decode cX11_fewest 173 = .ok (.goto (-36), 3) := by decide +kernel
theorem dX11_fewest_176 : decode cX11_fewest 176 = .ok (.aload_n 0, 1) := by decide +kernel
theorem dX11_fewest_177 : decode cX11_fewest 177 = .ok (.iload_n 1, 1) := by decide +kernel
theorem dX11_fewest_178 : decode cX11_fewest 178 = .ok (.invokevirtual 216, 3) := by decide +kernel
theorem dX11_fewest_181 : decode cX11_fewest 181 = .ok (.aload_n 0, 1) := by decide +kernel
theorem dX11_fewest_182 : decode cX11_fewest 182 = .ok (.getfield 7, 3) := by decide +kernel
theorem dX11_fewest_185 : decode cX11_fewest 185 = .ok (.iload_n 1, 1) := by decide +kernel
theorem dX11_fewest_186 : decode cX11_fewest 186 = .ok (.aload_n 0, 1) := by decide +kernel
theorem dX11_fewest_187 : decode cX11_fewest 187 = .ok (.getfield 30, 3) := by decide +kernel
theorem dX11_fewest_190 : decode cX11_fewest 190 = .ok (.iload_n 1, 1) := by decide +kernel
theorem dX11_fewest_191 : decode cX11_fewest 191 = .ok (.iaload, 1) := by decide +kernel
theorem dX11_fewest_192 : decode cX11_fewest 192 = .ok (.iastore, 1) := by decide +kernel
theorem dX11_fewest_193 : decode cX11_fewest 193 = .ok (.aload_n 0, 1) := by decide +kernel
theorem dX11_fewest_194 : decode cX11_fewest 194 = .ok (.getfield 20, 3) := by decide +kernel
theorem dX11_fewest_197 : decode cX11_fewest 197 = .ok (.iload_n 1, 1) := by decide +kernel
theorem dX11_fewest_198 : decode cX11_fewest 198 = .ok (.iconst 0, 1) := by decide +kernel
theorem dX11_fewest_199 : decode cX11_fewest 199 = .ok (.iastore, 1) := by decide +kernel
theorem dX11_fewest_200 : decode cX11_fewest 200 = .ok (.aload_n 0, 1) := by decide +kernel
theorem dX11_fewest_201 : decode cX11_fewest 201 = .ok (.iload_n 3, 1) := by decide +kernel
theorem dX11_fewest_202 : decode cX11_fewest 202 = .ok (.invokevirtual 157, 3) := by decide +kernel
theorem dX11_fewest_205 : decode cX11_fewest 205 = .ok (.ireturn, 1) := by decide +kernel
def f_Model_fewest_L137 (x1 : Int32) (k176 : MI → MJ → Prop) : Nat → Int32 → MI → MJ → Prop
  | 0, _, _, _ => False
  | nf137 + 1, x5, I, J =>
  (if (I 177 59) ≤ x5 then k176 I J else vp_in x5 12 ∧ vp_in x5 12 ∧ vp_in ((14 * x1) + (I 220 x5.toNatClampNeg)) 280 ∧ ∀ I169 : MI, I169 = sI I 187 (upd (I 187) ((14 * x1) + (I 220 x5.toNatClampNeg)).toNatClampNeg (I 218 x5.toNatClampNeg)) → ∀ t170 : Int32, t170 = x5 + 1 → f_Model_fewest_L137 x1 k176 nf137 t170 I169 J)
def f_Model_fewest_L96 (x1 : Int32) (x2 : Int32) (x3 : Int32) (k134 : MI → MJ → Prop) : Nat → Int32 → MI → MJ → Prop
  | 0, _, _, _ => False
  | nf96 + 1, x5, I, J =>
  (if (x3 * x2) ≤ x5 then k134 I J else ¬ x2 = 0 ∧ ¬ x2 = 0 ∧ f_Model_spot x1 (x5 / x2) (x5 - x5 / x2 * x2) I J (fun r117 I117 J117 => vp_in x5 64 ∧ vp_in r117 1120 ∧ ∀ I127 : MI, I127 = sI I117 189 (upd (I117 189) r117.toNatClampNeg (I117 219 x5.toNatClampNeg)) → ∀ t128 : Int32, t128 = x5 + 1 → f_Model_fewest_L96 x1 x2 x3 k134 nf96 t128 I127 J117))
def f_Model_fewest_b74 (x1 : Int32) (x2 : Int32) (x3 : Int32) (x4 : Int32) (Q : Int32 → MI → MJ → Prop) (I : MI) (J : MJ) : Prop :=
  (if x4 = 0 then f_Model_refuse (5 : Int32) I J (fun r81 I81 J81 => Q r81 I81 J81) else f_Model_clear x1 (0 : Int32) x3 x2 I J (fun I90 J90 => ∃ n, f_Model_fewest_L96 x1 x2 x3 (fun (I : MI) (J : MJ) => ∃ n, f_Model_fewest_L137 x1 (fun (I : MI) (J : MJ) => f_Model_name x1 I J (fun I178 J178 => vp_in x1 20 ∧ vp_in x1 16 ∧ ∀ I192 : MI, I192 = sI I178 178 (upd (I178 178) x1.toNatClampNeg (I178 184 x1.toNatClampNeg)) → vp_in x1 16 ∧ ∀ I199 : MI, I199 = sI I192 181 (upd (I192 181) x1.toNatClampNeg 0) → f_Model_done x3 I199 J178 (fun r202 I202 J202 => Q r202 I202 J202))) n 0 I J) n 0 I90 J90))
def f_Model_fewest_L41 (x2 : Int32) (k74 : Int32 → Int32 → MI → MJ → Prop) : Nat → Int32 → Int32 → MI → MJ → Prop
  | 0, _, _, _, _ => False
  | nf41 + 1, x3, x4, I, J =>
  (if x4 = 0 then f_Model_isSmall (x3 + 1) ((x3 + 1) * x2) I J (fun r54 I54 J54 => (if r54 = 0 then k74 x3 x4 I54 J54 else ∀ t60 : Int32, t60 = x3 + 1 → f_Model_findTable t60 x2 I54 J54 (fun r66 I66 J66 => f_Model_fewest_L41 x2 k74 nf41 t60 r66 I66 J66))) else k74 x3 x4 I J)
def f_Model_fewest (x1 : Int32) (I : MI) (J : MJ) (Q : Int32 → MI → MJ → Prop) : Prop :=
  f_Model_isPlace x1 I J (fun r1 I1 J1 => (if r1 = 0 then f_Model_refuse (2 : Int32) I1 J1 (fun r9 I9 J9 => Q r9 I9 J9) else (if (I1 177 59) = 0 then f_Model_refuse (1 : Int32) I1 J1 (fun r22 I22 J22 => Q r22 I22 J22) else f_Model_knownSigns I1 J1 (fun r27 I27 J27 => f_Model_findTable (1 : Int32) r27 I27 J27 (fun r36 I36 J36 => ∃ n, f_Model_fewest_L41 r27 (fun (z74_x3 : Int32) (z74_x4 : Int32) (I : MI) (J : MJ) => f_Model_fewest_b74 x1 r27 z74_x3 z74_x4 Q I J) n 1 r36 I36 J36)))))
set_option maxRecDepth 100000 in
set_option maxHeartbeats 4000000 in
theorem w_Model_fewest_L137 {Γ : Ctx} {Q : Int32 → MI → MJ → Prop} {x1 : Int32} {x3 : Int32} {k176 : MI → MJ → Prop} (X : Cx Γ cX11_fewest 6 RX11 3) (Y : Rt Γ (Pi Q) (Option.some Jvm.ClassFile.FieldType.int))  (hk176 : ∀ (I : MI) (J : MJ), k176 I J → Wp Γ 6 176 [(0, .ref (ad Γ 177)), (1, .int x1), (3, .int x3)] [] I J) : ∀ (n : Nat) (x5 : Int32) (I : MI) (J : MJ), f_Model_fewest_L137 x1 k176 n x5 I J → Wp Γ 6 137 [(0, .ref (ad Γ 177)), (1, .int x1), (3, .int x3), (5, .int x5)] [] I J := by
  intro n
  induction n with
  | zero => intro x5 I J h; exact absurd h (by simp [f_Model_fewest_L137])
  | succ n ih =>
  intro x5 I J h
  unfold f_Model_fewest_L137 at h
  refine wp_iload X dX11_fewest_137 3 rfl ?_
  refine wp_aload_n X dX11_fewest_139 0 rfl ?_
  refine gf_X11_405 X sh_177 dX11_fewest_140 ?_
  refine wp_icmp_ge (tgt := 176) X dX11_fewest_143 (by decide) (fun hc => ?_) (fun hc => ?_)
  · have h := ite_t h hc
    refine wp_sub X [0, 1, 2] rfl ?_
    exact hk176 _ _ h
  · have h := ite_f h hc
    refine wp_aload_n X dX11_fewest_146 0 rfl ?_
    refine gf_X11_39 (o' := 187) X sh_177 rfl dX11_fewest_147 ?_
    refine wp_bipush X dX11_fewest_150 bi_14 ?_
    refine wp_iload_n X dX11_fewest_152 1 rfl ?_
    refine wp_imul X dX11_fewest_153 ?_
    refine wp_aload_n X dX11_fewest_154 0 rfl ?_
    refine gf_X11_138 (o' := 220) X sh_177 rfl dX11_fewest_155 ?_
    refine wp_iload X dX11_fewest_158 3 rfl ?_
    obtain ⟨hb160, h⟩ := h
    refine wp_iald X sh_220 hb160 dX11_fewest_160 ?_
    refine wp_iadd X dX11_fewest_161 ?_
    refine wp_aload_n X dX11_fewest_162 0 rfl ?_
    refine gf_X11_132 (o' := 218) X sh_177 rfl dX11_fewest_163 ?_
    refine wp_iload X dX11_fewest_166 3 rfl ?_
    obtain ⟨hb168, h⟩ := h
    refine wp_iald X sh_218 hb168 dX11_fewest_168 ?_
    obtain ⟨hb169, h⟩ := h
    refine wp_iast X sh_187 hb169 dX11_fewest_169 ?_
    refine wp_memI (fun I169 eI169 => ?_)
    have h := h I169 eI169
    obtain ⟨t170, et170⟩ : ∃ y : Int32, y = x5 + 1 := ⟨_, rfl⟩
    have h := h t170 et170
    refine wp_iinc (L' := [(5, .int t170), (0, .ref (ad Γ 177)), (1, .int x1), (3, .int x3)]) X dX11_fewest_170 3 rfl (ii_1 et170) (by decide) rfl ?_
    refine wp_goto (tgt := 137) X dX11_fewest_173 (by decide) ?_
    refine wp_sub X [1, 2, 3, 0] rfl ?_
    exact ih _ _ _ h

set_option maxRecDepth 100000 in
set_option maxHeartbeats 4000000 in
theorem w_Model_fewest_L96 {Γ : Ctx} {Q : Int32 → MI → MJ → Prop} {x1 : Int32} {x2 : Int32} {x3 : Int32} {k134 : MI → MJ → Prop} (X : Cx Γ cX11_fewest 6 RX11 3) (Y : Rt Γ (Pi Q) (Option.some Jvm.ClassFile.FieldType.int))  (hk134 : ∀ (I : MI) (J : MJ), k134 I J → Wp Γ 6 134 [(0, .ref (ad Γ 177)), (1, .int x1), (3, .int x3)] [] I J) : ∀ (n : Nat) (x5 : Int32) (I : MI) (J : MJ), f_Model_fewest_L96 x1 x2 x3 k134 n x5 I J → Wp Γ 6 96 [(0, .ref (ad Γ 177)), (1, .int x1), (2, .int x2), (3, .int x3), (5, .int x5)] [] I J := by
  intro n
  induction n with
  | zero => intro x5 I J h; exact absurd h (by simp [f_Model_fewest_L96])
  | succ n ih =>
  intro x5 I J h
  unfold f_Model_fewest_L96 at h
  refine wp_iload X dX11_fewest_96 4 rfl ?_
  refine wp_iload_n X dX11_fewest_98 3 rfl ?_
  refine wp_iload_n X dX11_fewest_99 2 rfl ?_
  refine wp_imul X dX11_fewest_100 ?_
  refine wp_icmp_ge (tgt := 134) X dX11_fewest_101 (by decide) (fun hc => ?_) (fun hc => ?_)
  · have h := ite_t h hc
    refine wp_sub X [0, 1, 3] rfl ?_
    exact hk134 _ _ h
  · have h := ite_f h hc
    refine wp_aload_n X dX11_fewest_104 0 rfl ?_
    refine gf_X11_45 (o' := 189) X sh_177 rfl dX11_fewest_105 ?_
    refine wp_iload_n X dX11_fewest_108 1 rfl ?_
    refine wp_iload X dX11_fewest_109 4 rfl ?_
    refine wp_iload_n X dX11_fewest_111 2 rfl ?_
    obtain ⟨hz, h⟩ := h
    refine wp_idiv X dX11_fewest_112 hz ?_
    refine wp_iload X dX11_fewest_113 4 rfl ?_
    refine wp_iload_n X dX11_fewest_115 2 rfl ?_
    obtain ⟨hz, h⟩ := h
    refine wp_irem X dX11_fewest_116 hz ?_
    refine cs_Model_spot X dX11_fewest_117 ml_X11_149  h (Nat.le_of_ble_eq_true rfl) (by decide) (fun r117 I117 J117 h => ?_)
    refine wp_aload_n X dX11_fewest_120 0 rfl ?_
    refine gf_X11_135 (o' := 219) X sh_177 rfl dX11_fewest_121 ?_
    refine wp_iload X dX11_fewest_124 4 rfl ?_
    obtain ⟨hb126, h⟩ := h
    refine wp_iald X sh_219 hb126 dX11_fewest_126 ?_
    obtain ⟨hb127, h⟩ := h
    refine wp_iast X sh_189 hb127 dX11_fewest_127 ?_
    refine wp_memI (fun I127 eI127 => ?_)
    have h := h I127 eI127
    obtain ⟨t128, et128⟩ : ∃ y : Int32, y = x5 + 1 := ⟨_, rfl⟩
    have h := h t128 et128
    refine wp_iinc (L' := [(5, .int t128), (0, .ref (ad Γ 177)), (1, .int x1), (2, .int x2), (3, .int x3)]) X dX11_fewest_128 4 rfl (ii_1 et128) (by decide) rfl ?_
    refine wp_goto (tgt := 96) X dX11_fewest_131 (by decide) ?_
    refine wp_sub X [1, 2, 3, 4, 0] rfl ?_
    exact ih _ _ _ h

set_option maxRecDepth 100000 in
set_option maxHeartbeats 4000000 in
theorem w_Model_fewest_b74 {Γ : Ctx} {Q : Int32 → MI → MJ → Prop} {x1 : Int32} {x2 : Int32} {x3 : Int32} {x4 : Int32}  (X : Cx Γ cX11_fewest 6 RX11 3) (Y : Rt Γ (Pi Q) (Option.some Jvm.ClassFile.FieldType.int))   {I : MI} {J : MJ} (h : f_Model_fewest_b74 x1 x2 x3 x4 Q I J) : Wp Γ 6 74 [(0, .ref (ad Γ 177)), (1, .int x1), (2, .int x2), (3, .int x3), (4, .int x4)] [] I J := by
  unfold f_Model_fewest_b74 at h
  refine wp_iload X dX11_fewest_74 4 rfl ?_
  refine wp_if_ne (tgt := 85) X dX11_fewest_76 (by decide) (fun hc => ?_) (fun hc => ?_)
  · have h := ite_f h hc
    refine wp_aload_n X dX11_fewest_85 0 rfl ?_
    refine wp_iload_n X dX11_fewest_86 1 rfl ?_
    refine wp_iconst X dX11_fewest_87 ic_0 ?_
    refine wp_iload_n X dX11_fewest_88 3 rfl ?_
    refine wp_iload_n X dX11_fewest_89 2 rfl ?_
    refine cv_Model_clear X dX11_fewest_90 ml_X11_209  h (Nat.le_of_ble_eq_true rfl) (by decide) (fun I90 J90 h => ?_)
    refine wp_iconst X dX11_fewest_93 ic_0 ?_
    refine wp_istore (L' := [(5, .int 0), (0, .ref (ad Γ 177)), (1, .int x1), (2, .int x2), (3, .int x3), (4, .int x4)]) X dX11_fewest_94 (by decide) rfl ?_
    obtain ⟨n, h⟩ := h
    refine wp_sub X [1, 2, 3, 4, 0] rfl ?_
    refine w_Model_fewest_L96 X Y  ?_ n _ _ _ h
    · intro I J h
      refine wp_iconst X dX11_fewest_134 ic_0 ?_
      refine wp_istore (L' := [(5, .int 0), (0, .ref (ad Γ 177)), (1, .int x1), (3, .int x3)]) X dX11_fewest_135 (by decide) rfl ?_
      obtain ⟨n, h⟩ := h
      refine wp_sub X [1, 2, 3, 0] rfl ?_
      refine w_Model_fewest_L137 X Y  ?_ n _ _ _ h
      · intro I J h
        refine wp_aload_n X dX11_fewest_176 0 rfl ?_
        refine wp_iload_n X dX11_fewest_177 1 rfl ?_
        refine cv_Model_name X dX11_fewest_178 ml_X11_216  h (Nat.le_of_ble_eq_true rfl) (by decide) (fun I178 J178 h => ?_)
        refine wp_aload_n X dX11_fewest_181 0 rfl ?_
        refine gf_X11_7 (o' := 178) X sh_177 rfl dX11_fewest_182 ?_
        refine wp_iload_n X dX11_fewest_185 1 rfl ?_
        refine wp_aload_n X dX11_fewest_186 0 rfl ?_
        refine gf_X11_30 (o' := 184) X sh_177 rfl dX11_fewest_187 ?_
        refine wp_iload_n X dX11_fewest_190 1 rfl ?_
        obtain ⟨hb191, h⟩ := h
        refine wp_iald X sh_184 hb191 dX11_fewest_191 ?_
        obtain ⟨hb192, h⟩ := h
        refine wp_iast X sh_178 hb192 dX11_fewest_192 ?_
        refine wp_memI (fun I192 eI192 => ?_)
        have h := h I192 eI192
        refine wp_aload_n X dX11_fewest_193 0 rfl ?_
        refine gf_X11_20 (o' := 181) X sh_177 rfl dX11_fewest_194 ?_
        refine wp_iload_n X dX11_fewest_197 1 rfl ?_
        refine wp_iconst X dX11_fewest_198 ic_0 ?_
        obtain ⟨hb199, h⟩ := h
        refine wp_iast X sh_181 hb199 dX11_fewest_199 ?_
        refine wp_memI (fun I199 eI199 => ?_)
        have h := h I199 eI199
        refine wp_aload_n X dX11_fewest_200 0 rfl ?_
        refine wp_iload_n X dX11_fewest_201 2 rfl ?_
        refine cv_Model_done X dX11_fewest_202 ml_X11_157  h (Nat.le_of_ble_eq_true rfl) (by decide) (fun r202 I202 J202 h => ?_)
        exact wp_iret X Y dX11_fewest_205 ⟨_, rfl, h⟩
  · have h := ite_t h hc
    refine wp_aload_n X dX11_fewest_79 0 rfl ?_
    refine wp_iconst X dX11_fewest_80 ic_5 ?_
    refine cv_Model_refuse X dX11_fewest_81 ml_X11_219  h (Nat.le_of_ble_eq_true rfl) (by decide) (fun r81 I81 J81 h => ?_)
    exact wp_iret X Y dX11_fewest_84 ⟨_, rfl, h⟩

set_option maxRecDepth 100000 in
set_option maxHeartbeats 4000000 in
theorem w_Model_fewest_L41 {Γ : Ctx} {Q : Int32 → MI → MJ → Prop} {x1 : Int32} {x2 : Int32} {k74 : Int32 → Int32 → MI → MJ → Prop} (X : Cx Γ cX11_fewest 6 RX11 3) (Y : Rt Γ (Pi Q) (Option.some Jvm.ClassFile.FieldType.int))  (hk74 : ∀ (x3 : Int32) (x4 : Int32) (I : MI) (J : MJ), k74 x3 x4 I J → Wp Γ 6 74 [(0, .ref (ad Γ 177)), (1, .int x1), (2, .int x2), (3, .int x3), (4, .int x4)] [] I J) : ∀ (n : Nat) (x3 : Int32) (x4 : Int32) (I : MI) (J : MJ), f_Model_fewest_L41 x2 k74 n x3 x4 I J → Wp Γ 6 41 [(0, .ref (ad Γ 177)), (1, .int x1), (2, .int x2), (3, .int x3), (4, .int x4)] [] I J := by
  intro n
  induction n with
  | zero => intro x3 x4 I J h; exact absurd h (by simp [f_Model_fewest_L41])
  | succ n ih =>
  intro x3 x4 I J h
  unfold f_Model_fewest_L41 at h
  refine wp_iload X dX11_fewest_41 4 rfl ?_
  refine wp_if_ne (tgt := 74) X dX11_fewest_43 (by decide) (fun hc => ?_) (fun hc => ?_)
  · have h := ite_f h hc
    exact hk74 _ _ _ _ h
  · have h := ite_t h hc
    refine wp_iload_n X dX11_fewest_46 3 rfl ?_
    refine wp_iconst X dX11_fewest_47 ic_1 ?_
    refine wp_iadd X dX11_fewest_48 ?_
    refine wp_iload_n X dX11_fewest_49 3 rfl ?_
    refine wp_iconst X dX11_fewest_50 ic_1 ?_
    refine wp_iadd X dX11_fewest_51 ?_
    refine wp_iload_n X dX11_fewest_52 2 rfl ?_
    refine wp_imul X dX11_fewest_53 ?_
    refine cs_Model_isSmall X dX11_fewest_54 ml_X11_428  h (Nat.le_of_ble_eq_true rfl) (by decide) (fun r54 I54 J54 h => ?_)
    refine wp_if_eq (tgt := 74) X dX11_fewest_57 (by decide) (fun hc => ?_) (fun hc => ?_)
    · have h := ite_t h hc
      exact hk74 _ _ _ _ h
    · have h := ite_f h hc
      obtain ⟨t60, et60⟩ : ∃ y : Int32, y = x3 + 1 := ⟨_, rfl⟩
      have h := h t60 et60
      refine wp_iinc (L' := [(3, .int t60), (0, .ref (ad Γ 177)), (1, .int x1), (2, .int x2), (4, .int x4)]) X dX11_fewest_60 3 rfl (ii_1 et60) (by decide) rfl ?_
      refine wp_aload_n X dX11_fewest_63 1 rfl ?_
      refine wp_iload_n X dX11_fewest_64 0 rfl ?_
      refine wp_iload_n X dX11_fewest_65 3 rfl ?_
      refine cv_Model_findTable X dX11_fewest_66 ml_X11_425  h (Nat.le_of_ble_eq_true rfl) (by decide) (fun r66 I66 J66 h => ?_)
      refine wp_istore (L' := [(4, .int r66), (3, .int t60), (0, .ref (ad Γ 177)), (1, .int x1), (2, .int x2)]) X dX11_fewest_69 (by decide) rfl ?_
      refine wp_goto (tgt := 41) X dX11_fewest_71 (by decide) ?_
      refine wp_sub X [2, 3, 4, 1, 0] rfl ?_
      exact ih _ _ _ _ h

set_option maxRecDepth 100000 in
set_option maxHeartbeats 4000000 in
theorem w_Model_fewest_b0 {Γ : Ctx} {Q : Int32 → MI → MJ → Prop} {x1 : Int32}  (X : Cx Γ cX11_fewest 6 RX11 3) (Y : Rt Γ (Pi Q) (Option.some Jvm.ClassFile.FieldType.int))   {I : MI} {J : MJ} (h : f_Model_fewest x1 I J Q) : Wp Γ 6 0 [(0, .ref (ad Γ 177)), (1, .int x1)] [] I J := by
  unfold f_Model_fewest at h
  refine wp_iload_n X dX11_fewest_0 1 rfl ?_
  refine cs_Model_isPlace X dX11_fewest_1 ml_X11_145  h (Nat.le_of_ble_eq_true rfl) (by decide) (fun r1 I1 J1 h => ?_)
  refine wp_if_ne (tgt := 13) X dX11_fewest_4 (by decide) (fun hc => ?_) (fun hc => ?_)
  · have h := ite_f h hc
    refine wp_aload_n X dX11_fewest_13 0 rfl ?_
    refine gf_X11_405 X sh_177 dX11_fewest_14 ?_
    refine wp_if_ne (tgt := 26) X dX11_fewest_17 (by decide) (fun hc => ?_) (fun hc => ?_)
    · have h := ite_f h hc
      refine wp_aload_n X dX11_fewest_26 0 rfl ?_
      refine cv_Model_knownSigns X dX11_fewest_27 ml_X11_422  h (Nat.le_of_ble_eq_true rfl) (by decide) (fun r27 I27 J27 h => ?_)
      refine wp_istore_n (L' := [(2, .int r27), (0, .ref (ad Γ 177)), (1, .int x1)]) X dX11_fewest_30 rfl (by decide) rfl ?_
      refine wp_iconst X dX11_fewest_31 ic_1 ?_
      refine wp_istore_n (L' := [(3, .int 1), (2, .int r27), (0, .ref (ad Γ 177)), (1, .int x1)]) X dX11_fewest_32 rfl (by decide) rfl ?_
      refine wp_aload_n X dX11_fewest_33 2 rfl ?_
      refine wp_iconst X dX11_fewest_34 ic_1 ?_
      refine wp_iload_n X dX11_fewest_35 1 rfl ?_
      refine cv_Model_findTable X dX11_fewest_36 ml_X11_425  h (Nat.le_of_ble_eq_true rfl) (by decide) (fun r36 I36 J36 h => ?_)
      refine wp_istore (L' := [(4, .int r36), (3, .int 1), (2, .int r27), (0, .ref (ad Γ 177)), (1, .int x1)]) X dX11_fewest_39 (by decide) rfl ?_
      obtain ⟨n, h⟩ := h
      refine wp_sub X [3, 4, 2, 1, 0] rfl ?_
      refine w_Model_fewest_L41 X Y  ?_ n _ _ _ _ h
      · intro z74_x3 z74_x4 I J h
        exact w_Model_fewest_b74 X Y  h
    · have h := ite_t h hc
      refine wp_aload_n X dX11_fewest_20 0 rfl ?_
      refine wp_iconst X dX11_fewest_21 ic_1 ?_
      refine cv_Model_refuse X dX11_fewest_22 ml_X11_219  h (Nat.le_of_ble_eq_true rfl) (by decide) (fun r22 I22 J22 h => ?_)
      exact wp_iret X Y dX11_fewest_25 ⟨_, rfl, h⟩
  · have h := ite_t h hc
    refine wp_aload_n X dX11_fewest_7 0 rfl ?_
    refine wp_iconst X dX11_fewest_8 ic_2 ?_
    refine cv_Model_refuse X dX11_fewest_9 ml_X11_219  h (Nat.le_of_ble_eq_true rfl) (by decide) (fun r9 I9 J9 h => ?_)
    exact wp_iret X Y dX11_fewest_12 ⟨_, rfl, h⟩

theorem c_Model_fewest {l : Launch} {g : GE} (hg : Inj g) {I : MI} {J : MJ} {Q : Int32 → MI → MJ → Prop} {x1 : Int32}  (h : f_Model_fewest x1 I J Q) : Cm l g yX11_fewest cX11_fewest 6 (Option.some Jvm.ClassFile.FieldType.int) 3 [.ref (g.1 177), .int x1] I J (Pi Q) := by
  refine Cm.of (As := fun ad => [.ref (ad 177), .int x1]) hg pn_X11 (Nat.le_of_ble_eq_true rfl) ?_
  exact (fun Γ _ _ X Y => w_Model_fewest_b0 X Y  h)
theorem cv_Model_fewest {Γ : Ctx} {cc : ByteArray} {nL d pc index : Nat} {own : String} {L : List (Nat × Value)} {rest : List Value} {I : MI} {J : MJ} {Q : Int32 → MI → MJ → Prop} {x1 : Int32} (X : Cx Γ cc nL own d) (hd : decode cc pc = .ok (.invokevirtual index, 3)) (hlink : Cond.methodLink own index yX11_fewest ∈ TT)  (h : f_Model_fewest x1 I J Q) (hrest : (rest.map fun v => v.category).sum ≤ 8) (hdd : 3 + 1 ≤ d) (kk : ∀ (r : Int32) (I' : MI) (J' : MJ), Q r I' J' → Wp Γ nL (pc + 3) L (.int r :: rest) I' J') : Wp Γ nL pc L (.int x1 :: .ref (ad Γ 177) :: rest) I J :=
  wp_callV (As := [.int x1]) (rest := rest) (T := TX11) (N := 62) X hd hlink mv_X11_fewest sh_177 (by decide) rfl (c_Model_fewest X.inj  h) rfl rfl hrest hdd (fun v I' J' hv => by obtain ⟨r, rfl, hq⟩ := hv; exact kk r I' J' hq)
theorem dX11_fits_0 : decode cX11_fits 0 = .ok (.aload_n 0, 1) := by decide +kernel
theorem dX11_fits_1 : decode cX11_fits 1 = .ok (.iload_n 1, 1) := by decide +kernel
theorem dX11_fits_2 : decode cX11_fits 2 = .ok (.invokevirtual 242, 3) := by decide +kernel
theorem dX11_fits_5 : decode cX11_fits 5 = .ok (.ifCond .ne 6, 3) := by decide +kernel
theorem dX11_fits_8 : decode cX11_fits 8 = .ok (.bipush (-2), 2) := by decide +kernel
theorem dX11_fits_10 : decode cX11_fits 10 = .ok (.ireturn, 1) := by decide +kernel
theorem dX11_fits_11 : decode cX11_fits 11 = .ok (.iconst 0, 1) := by decide +kernel
theorem dX11_fits_12 : decode cX11_fits 12 = .ok (.istore_n 2, 1) := by decide +kernel
theorem dX11_fits_13 : decode cX11_fits 13 = .ok (.iload_n 2, 1) := by decide +kernel
theorem dX11_fits_14 : decode cX11_fits 14 = .ok (.aload_n 0, 1) := by decide +kernel
theorem dX11_fits_15 : decode cX11_fits 15 = .ok (.getfield 405, 3) := by decide +kernel
theorem dX11_fits_18 : decode cX11_fits 18 = .ok (.if_icmp .ge 31, 3) := by decide +kernel
theorem dX11_fits_21 : decode cX11_fits 21 = .ok (.aload_n 0, 1) := by decide +kernel
theorem dX11_fits_22 : decode cX11_fits 22 = .ok (.iload_n 1, 1) := by decide +kernel
theorem dX11_fits_23 : decode cX11_fits 23 = .ok (.aload_n 0, 1) := by decide +kernel
theorem dX11_fits_24 : decode cX11_fits 24 = .ok (.getfield 129, 3) := by decide +kernel
theorem dX11_fits_27 : decode cX11_fits 27 = .ok (.iload_n 2, 1) := by decide +kernel
theorem dX11_fits_28 : decode cX11_fits 28 = .ok (.laload, 1) := by decide +kernel
theorem dX11_fits_29 : decode cX11_fits 29 = .ok (.invokevirtual 253, 3) := by decide +kernel
theorem dX11_fits_32 : decode cX11_fits 32 = .ok (.aload_n 0, 1) := by decide +kernel
theorem dX11_fits_33 : decode cX11_fits 33 = .ok (.getfield 132, 3) := by decide +kernel
theorem dX11_fits_36 : decode cX11_fits 36 = .ok (.iload_n 2, 1) := by decide +kernel
theorem dX11_fits_37 : decode cX11_fits 37 = .ok (.iaload, 1) := by decide +kernel
theorem dX11_fits_38 : decode cX11_fits 38 = .ok (.if_icmp .eq 5, 3) := by decide +kernel
theorem dX11_fits_41 : decode cX11_fits 41 = .ok (.iload_n 2, 1) := by decide +kernel
theorem dX11_fits_42 : decode cX11_fits 42 = .ok (.ireturn, 1) := by decide +kernel
theorem dX11_fits_43 : decode cX11_fits 43 = .ok (.iinc 2 1, 3) := by decide +kernel
theorem dX11_fits_46 : decode cX11_fits 46 = .ok (.goto (-33), 3) := by decide +kernel
theorem dX11_fits_49 : decode cX11_fits 49 = .ok (.iconst (-1), 1) := by decide +kernel
theorem dX11_fits_50 : decode cX11_fits 50 = .ok (.ireturn, 1) := by decide +kernel
def f_Model_fits_L13 (x1 : Int32) (k41 : Int32 → MI → MJ → Prop) (k49 : MI → MJ → Prop) : Nat → Int32 → MI → MJ → Prop
  | 0, _, _, _ => False
  | nf13 + 1, x2, I, J =>
  (if (I 177 59) ≤ x2 then k49 I J else vp_in x2 12 ∧ f_Model_answerBy x1 (J 217 x2.toNatClampNeg) I J (fun r29 I29 J29 => vp_in x2 12 ∧ (if r29 = (I29 218 x2.toNatClampNeg) then ∀ t43 : Int32, t43 = x2 + 1 → f_Model_fits_L13 x1 k41 k49 nf13 t43 I29 J29 else k41 x2 I29 J29)))
def f_Model_fits (x1 : Int32) (I : MI) (J : MJ) (Q : Int32 → MI → MJ → Prop) : Prop :=
  f_Model_isMachine x1 I J (fun r2 I2 J2 => (if r2 = 0 then Q (-2) I2 J2 else ∃ n, f_Model_fits_L13 x1 (fun (z41_x2 : Int32) (I : MI) (J : MJ) => Q z41_x2 I J) (fun (I : MI) (J : MJ) => Q (-1) I J) n 0 I2 J2))
set_option maxRecDepth 100000 in
set_option maxHeartbeats 4000000 in
theorem w_Model_fits_L13 {Γ : Ctx} {Q : Int32 → MI → MJ → Prop} {x1 : Int32} {k41 : Int32 → MI → MJ → Prop} {k49 : MI → MJ → Prop} (X : Cx Γ cX11_fits 3 RX11 4) (Y : Rt Γ (Pi Q) (Option.some Jvm.ClassFile.FieldType.int))  (hk41 : ∀ (x2 : Int32) (I : MI) (J : MJ), k41 x2 I J → Wp Γ 3 41 [(2, .int x2)] [] I J) (hk49 : ∀ (I : MI) (J : MJ), k49 I J → Wp Γ 3 49 [] [] I J) : ∀ (n : Nat) (x2 : Int32) (I : MI) (J : MJ), f_Model_fits_L13 x1 k41 k49 n x2 I J → Wp Γ 3 13 [(0, .ref (ad Γ 177)), (1, .int x1), (2, .int x2)] [] I J := by
  intro n
  induction n with
  | zero => intro x2 I J h; exact absurd h (by simp [f_Model_fits_L13])
  | succ n ih =>
  intro x2 I J h
  unfold f_Model_fits_L13 at h
  refine wp_iload_n X dX11_fits_13 2 rfl ?_
  refine wp_aload_n X dX11_fits_14 0 rfl ?_
  refine gf_X11_405 X sh_177 dX11_fits_15 ?_
  refine wp_icmp_ge (tgt := 49) X dX11_fits_18 (by decide) (fun hc => ?_) (fun hc => ?_)
  · have h := ite_t h hc
    refine wp_sub X [] rfl ?_
    exact hk49 _ _ h
  · have h := ite_f h hc
    refine wp_aload_n X dX11_fits_21 0 rfl ?_
    refine wp_iload_n X dX11_fits_22 1 rfl ?_
    refine wp_aload_n X dX11_fits_23 0 rfl ?_
    refine gf_X11_129 (o' := 217) X sh_177 rfl dX11_fits_24 ?_
    refine wp_iload_n X dX11_fits_27 2 rfl ?_
    obtain ⟨hb28, h⟩ := h
    refine wp_lald X sh_217 hb28 dX11_fits_28 ?_
    refine cv_Model_answerBy X dX11_fits_29 ml_X11_253  h (Nat.le_of_ble_eq_true rfl) (by decide) (fun r29 I29 J29 h => ?_)
    refine wp_aload_n X dX11_fits_32 0 rfl ?_
    refine gf_X11_132 (o' := 218) X sh_177 rfl dX11_fits_33 ?_
    refine wp_iload_n X dX11_fits_36 2 rfl ?_
    obtain ⟨hb37, h⟩ := h
    refine wp_iald X sh_218 hb37 dX11_fits_37 ?_
    refine wp_icmp_eq (tgt := 43) X dX11_fits_38 (by decide) (fun hc => ?_) (fun hc => ?_)
    · have h := ite_t h hc
      obtain ⟨t43, et43⟩ : ∃ y : Int32, y = x2 + 1 := ⟨_, rfl⟩
      have h := h t43 et43
      refine wp_iinc (L' := [(2, .int t43), (0, .ref (ad Γ 177)), (1, .int x1)]) X dX11_fits_43 2 rfl (ii_1 et43) (by decide) rfl ?_
      refine wp_goto (tgt := 13) X dX11_fits_46 (by decide) ?_
      refine wp_sub X [1, 2, 0] rfl ?_
      exact ih _ _ _ h
    · have h := ite_f h hc
      refine wp_sub X [2] rfl ?_
      exact hk41 _ _ _ h

set_option maxRecDepth 100000 in
set_option maxHeartbeats 4000000 in
theorem w_Model_fits_b0 {Γ : Ctx} {Q : Int32 → MI → MJ → Prop} {x1 : Int32}  (X : Cx Γ cX11_fits 3 RX11 4) (Y : Rt Γ (Pi Q) (Option.some Jvm.ClassFile.FieldType.int))   {I : MI} {J : MJ} (h : f_Model_fits x1 I J Q) : Wp Γ 3 0 [(0, .ref (ad Γ 177)), (1, .int x1)] [] I J := by
  unfold f_Model_fits at h
  refine wp_aload_n X dX11_fits_0 0 rfl ?_
  refine wp_iload_n X dX11_fits_1 1 rfl ?_
  refine cv_Model_isMachine X dX11_fits_2 ml_X11_242  h (Nat.le_of_ble_eq_true rfl) (by decide) (fun r2 I2 J2 h => ?_)
  refine wp_if_ne (tgt := 11) X dX11_fits_5 (by decide) (fun hc => ?_) (fun hc => ?_)
  · have h := ite_f h hc
    refine wp_iconst X dX11_fits_11 ic_0 ?_
    refine wp_istore_n (L' := [(2, .int 0), (0, .ref (ad Γ 177)), (1, .int x1)]) X dX11_fits_12 rfl (by decide) rfl ?_
    obtain ⟨n, h⟩ := h
    refine wp_sub X [1, 2, 0] rfl ?_
    refine w_Model_fits_L13 X Y  ?_ ?_ n _ _ _ h
    · intro z41_x2 I J h
      refine wp_iload_n X dX11_fits_41 0 rfl ?_
      exact wp_iret X Y dX11_fits_42 ⟨_, rfl, h⟩
    · intro I J h
      refine wp_iconst X dX11_fits_49 ic_m1 ?_
      exact wp_iret X Y dX11_fits_50 ⟨_, rfl, h⟩
  · have h := ite_t h hc
    refine wp_bipush X dX11_fits_8 bi_m2 ?_
    exact wp_iret X Y dX11_fits_10 ⟨_, rfl, h⟩

theorem c_Model_fits {l : Launch} {g : GE} (hg : Inj g) {I : MI} {J : MJ} {Q : Int32 → MI → MJ → Prop} {x1 : Int32}  (h : f_Model_fits x1 I J Q) : Cm l g yX11_fits cX11_fits 3 (Option.some Jvm.ClassFile.FieldType.int) 4 [.ref (g.1 177), .int x1] I J (Pi Q) := by
  refine Cm.of (As := fun ad => [.ref (ad 177), .int x1]) hg pn_X11 (Nat.le_of_ble_eq_true rfl) ?_
  exact (fun Γ _ _ X Y => w_Model_fits_b0 X Y  h)
theorem cv_Model_fits {Γ : Ctx} {cc : ByteArray} {nL d pc index : Nat} {own : String} {L : List (Nat × Value)} {rest : List Value} {I : MI} {J : MJ} {Q : Int32 → MI → MJ → Prop} {x1 : Int32} (X : Cx Γ cc nL own d) (hd : decode cc pc = .ok (.invokevirtual index, 3)) (hlink : Cond.methodLink own index yX11_fits ∈ TT)  (h : f_Model_fits x1 I J Q) (hrest : (rest.map fun v => v.category).sum ≤ 8) (hdd : 4 + 1 ≤ d) (kk : ∀ (r : Int32) (I' : MI) (J' : MJ), Q r I' J' → Wp Γ nL (pc + 3) L (.int r :: rest) I' J') : Wp Γ nL pc L (.int x1 :: .ref (ad Γ 177) :: rest) I J :=
  wp_callV (As := [.int x1]) (rest := rest) (T := TX11) (N := 62) X hd hlink mv_X11_fits sh_177 (by decide) rfl (c_Model_fits X.inj  h) rfl rfl hrest hdd (fun v I' J' hv => by obtain ⟨r, rfl, hq⟩ := hv; exact kk r I' J' hq)
theorem dX11_blame_0 : decode cX11_blame 0 = .ok (.iload_n 1, 1) := by decide +kernel
theorem dX11_blame_1 : decode cX11_blame 1 = .ok (.invokestatic 145, 3) := by decide +kernel
theorem dX11_blame_4 : decode cX11_blame 4 = .ok (.ifCond .ne 9, 3) := by decide +kernel
theorem dX11_blame_7 : decode cX11_blame 7 = .ok (.aload_n 0, 1) := by decide +kernel
theorem dX11_blame_8 : decode cX11_blame 8 = .ok (.iconst 2, 1) := by decide +kernel
theorem dX11_blame_9 : decode cX11_blame 9 = .ok (.invokevirtual 219, 3) := by decide +kernel
theorem dX11_blame_12 : decode cX11_blame 12 = .ok (.ireturn, 1) := by decide +kernel
theorem dX11_blame_13 : decode cX11_blame 13 = .ok (.aload_n 0, 1) := by decide +kernel
theorem dX11_blame_14 : decode cX11_blame 14 = .ok (.getfield 23, 3) := by decide +kernel
theorem dX11_blame_17 : decode cX11_blame 17 = .ok (.iload_n 1, 1) := by decide +kernel
theorem dX11_blame_18 : decode cX11_blame 18 = .ok (.iload_n 2, 1) := by decide +kernel
theorem dX11_blame_19 : decode cX11_blame 19 = .ok (.iastore, 1) := by decide +kernel
theorem dX11_blame_20 : decode cX11_blame 20 = .ok (.aload_n 0, 1) := by decide +kernel
theorem dX11_blame_21 : decode cX11_blame 21 = .ok (.getfield 26, 3) := by decide +kernel
theorem dX11_blame_24 : decode cX11_blame 24 = .ok (.iload_n 1, 1) := by decide +kernel
theorem dX11_blame_25 : decode cX11_blame 25 = .ok (.iconst 1, 1) := by decide +kernel
theorem dX11_blame_26 : decode cX11_blame 26 = .ok (.bastore, 1) := by decide +kernel
theorem dX11_blame_27 : decode cX11_blame 27 = .ok (.aload_n 0, 1) := by decide +kernel
theorem dX11_blame_28 : decode cX11_blame 28 = .ok (.iconst 0, 1) := by decide +kernel
theorem dX11_blame_29 : decode cX11_blame 29 = .ok (.invokevirtual 157, 3) := by decide +kernel
theorem dX11_blame_32 : decode cX11_blame 32 = .ok (.ireturn, 1) := by decide +kernel
def f_Model_blame (x1 : Int32) (x2 : Int32) (I : MI) (J : MJ) (Q : Int32 → MI → MJ → Prop) : Prop :=
  f_Model_isPlace x1 I J (fun r1 I1 J1 => (if r1 = 0 then f_Model_refuse (2 : Int32) I1 J1 (fun r9 I9 J9 => Q r9 I9 J9) else vp_in x1 16 ∧ ∀ I19 : MI, I19 = sI I1 182 (upd (I1 182) x1.toNatClampNeg x2) → vp_in x1 16 ∧ ∀ I26 : MI, I26 = sI I19 183 (upd (I19 183) x1.toNatClampNeg (vp_nar .boolean 1)) → f_Model_done (0 : Int32) I26 J1 (fun r29 I29 J29 => Q r29 I29 J29)))
set_option maxRecDepth 100000 in
set_option maxHeartbeats 4000000 in
theorem w_Model_blame_b0 {Γ : Ctx} {Q : Int32 → MI → MJ → Prop} {x1 : Int32} {x2 : Int32}  (X : Cx Γ cX11_blame 3 RX11 1) (Y : Rt Γ (Pi Q) (Option.some Jvm.ClassFile.FieldType.int))   {I : MI} {J : MJ} (h : f_Model_blame x1 x2 I J Q) : Wp Γ 3 0 [(0, .ref (ad Γ 177)), (1, .int x1), (2, .int x2)] [] I J := by
  unfold f_Model_blame at h
  refine wp_iload_n X dX11_blame_0 1 rfl ?_
  refine cs_Model_isPlace X dX11_blame_1 ml_X11_145  h (Nat.le_of_ble_eq_true rfl) (by decide) (fun r1 I1 J1 h => ?_)
  refine wp_if_ne (tgt := 13) X dX11_blame_4 (by decide) (fun hc => ?_) (fun hc => ?_)
  · have h := ite_f h hc
    refine wp_aload_n X dX11_blame_13 0 rfl ?_
    refine gf_X11_23 (o' := 182) X sh_177 rfl dX11_blame_14 ?_
    refine wp_iload_n X dX11_blame_17 1 rfl ?_
    refine wp_iload_n X dX11_blame_18 2 rfl ?_
    obtain ⟨hb19, h⟩ := h
    refine wp_iast X sh_182 hb19 dX11_blame_19 ?_
    refine wp_memI (fun I19 eI19 => ?_)
    have h := h I19 eI19
    refine wp_aload_n X dX11_blame_20 0 rfl ?_
    refine gf_X11_26 (o' := 183) X sh_177 rfl dX11_blame_21 ?_
    refine wp_iload_n X dX11_blame_24 1 rfl ?_
    refine wp_iconst X dX11_blame_25 ic_1 ?_
    obtain ⟨hb26, h⟩ := h
    refine wp_zast X sh_183 hb26 dX11_blame_26 ?_
    refine wp_memI (fun I26 eI26 => ?_)
    have h := h I26 eI26
    refine wp_aload_n X dX11_blame_27 0 rfl ?_
    refine wp_iconst X dX11_blame_28 ic_0 ?_
    refine cv_Model_done X dX11_blame_29 ml_X11_157  h (Nat.le_of_ble_eq_true rfl) (by decide) (fun r29 I29 J29 h => ?_)
    exact wp_iret X Y dX11_blame_32 ⟨_, rfl, h⟩
  · have h := ite_t h hc
    refine wp_aload_n X dX11_blame_7 0 rfl ?_
    refine wp_iconst X dX11_blame_8 ic_2 ?_
    refine cv_Model_refuse X dX11_blame_9 ml_X11_219  h (Nat.le_of_ble_eq_true rfl) (by decide) (fun r9 I9 J9 h => ?_)
    exact wp_iret X Y dX11_blame_12 ⟨_, rfl, h⟩

theorem c_Model_blame {l : Launch} {g : GE} (hg : Inj g) {I : MI} {J : MJ} {Q : Int32 → MI → MJ → Prop} {x1 : Int32} {x2 : Int32}  (h : f_Model_blame x1 x2 I J Q) : Cm l g yX11_blame cX11_blame 3 (Option.some Jvm.ClassFile.FieldType.int) 1 [.ref (g.1 177), .int x1, .int x2] I J (Pi Q) := by
  refine Cm.of (As := fun ad => [.ref (ad 177), .int x1, .int x2]) hg pn_X11 (Nat.le_of_ble_eq_true rfl) ?_
  exact (fun Γ _ _ X Y => w_Model_blame_b0 X Y  h)
theorem cv_Model_blame {Γ : Ctx} {cc : ByteArray} {nL d pc index : Nat} {own : String} {L : List (Nat × Value)} {rest : List Value} {I : MI} {J : MJ} {Q : Int32 → MI → MJ → Prop} {x1 : Int32} {x2 : Int32} (X : Cx Γ cc nL own d) (hd : decode cc pc = .ok (.invokevirtual index, 3)) (hlink : Cond.methodLink own index yX11_blame ∈ TT)  (h : f_Model_blame x1 x2 I J Q) (hrest : (rest.map fun v => v.category).sum ≤ 8) (hdd : 1 + 1 ≤ d) (kk : ∀ (r : Int32) (I' : MI) (J' : MJ), Q r I' J' → Wp Γ nL (pc + 3) L (.int r :: rest) I' J') : Wp Γ nL pc L (.int x2 :: .int x1 :: .ref (ad Γ 177) :: rest) I J :=
  wp_callV (As := [.int x1, .int x2]) (rest := rest) (T := TX11) (N := 62) X hd hlink mv_X11_blame sh_177 (by decide) rfl (c_Model_blame X.inj  h) rfl rfl hrest hdd (fun v I' J' hv => by obtain ⟨r, rfl, hq⟩ := hv; exact kk r I' J' hq)
theorem dX11_raise_0 : decode cX11_raise 0 = .ok (.iload_n 1, 1) := by decide +kernel
theorem dX11_raise_1 : decode cX11_raise 1 = .ok (.invokestatic 145, 3) := by decide +kernel
theorem dX11_raise_4 : decode cX11_raise 4 = .ok (.ifCond .ne 9, 3) := by decide +kernel
theorem dX11_raise_7 : decode cX11_raise 7 = .ok (.aload_n 0, 1) := by decide +kernel
theorem dX11_raise_8 : decode cX11_raise 8 = .ok (.iconst 2, 1) := by decide +kernel
theorem dX11_raise_9 : decode cX11_raise 9 = .ok (.invokevirtual 219, 3) := by decide +kernel
theorem dX11_raise_12 : decode cX11_raise 12 = .ok (.ireturn, 1) := by decide +kernel
theorem dX11_raise_13 : decode cX11_raise 13 = .ok (.aload_n 0, 1) := by decide +kernel
theorem dX11_raise_14 : decode cX11_raise 14 = .ok (.getfield 26, 3) := by decide +kernel
theorem dX11_raise_17 : decode cX11_raise 17 = .ok (.iload_n 1, 1) := by decide +kernel
theorem dX11_raise_18 : decode cX11_raise 18 = .ok (.baload, 1) := by decide +kernel
theorem dX11_raise_19 : decode cX11_raise 19 = .ok (.ifCond .ne 9, 3) := by decide +kernel
theorem dX11_raise_22 : decode cX11_raise 22 = .ok (.aload_n 0, 1) := by decide +kernel
theorem dX11_raise_23 : decode cX11_raise 23 = .ok (.iconst 1, 1) := by decide +kernel
theorem dX11_raise_24 : decode cX11_raise 24 = .ok (.invokevirtual 219, 3) := by decide +kernel
theorem dX11_raise_27 : decode cX11_raise 27 = .ok (.ireturn, 1) := by decide +kernel
theorem dX11_raise_28 : decode cX11_raise 28 = .ok (.aload_n 0, 1) := by decide +kernel
theorem dX11_raise_29 : decode cX11_raise 29 = .ok (.getfield 26, 3) := by decide +kernel
theorem dX11_raise_32 : decode cX11_raise 32 = .ok (.iload_n 1, 1) := by decide +kernel
theorem dX11_raise_33 : decode cX11_raise 33 = .ok (.iconst 0, 1) := by decide +kernel
theorem dX11_raise_34 : decode cX11_raise 34 = .ok (.bastore, 1) := by decide +kernel
theorem dX11_raise_35 : decode cX11_raise 35 = .ok (.aload_n 0, 1) := by decide +kernel
theorem dX11_raise_36 : decode cX11_raise 36 = .ok (.aload_n 0, 1) := by decide +kernel
theorem dX11_raise_37 : decode cX11_raise 37 = .ok (.getfield 23, 3) := by decide +kernel
theorem dX11_raise_40 : decode cX11_raise 40 = .ok (.iload_n 1, 1) := by decide +kernel
theorem dX11_raise_41 : decode cX11_raise 41 = .ok (.iaload, 1) := by decide +kernel
theorem dX11_raise_42 : decode cX11_raise 42 = .ok (.invokevirtual 157, 3) := by decide +kernel
theorem dX11_raise_45 : decode cX11_raise 45 = .ok (.ireturn, 1) := by decide +kernel
def f_Model_raise (x1 : Int32) (I : MI) (J : MJ) (Q : Int32 → MI → MJ → Prop) : Prop :=
  f_Model_isPlace x1 I J (fun r1 I1 J1 => (if r1 = 0 then f_Model_refuse (2 : Int32) I1 J1 (fun r9 I9 J9 => Q r9 I9 J9) else vp_in x1 16 ∧ (if (I1 183 x1.toNatClampNeg) = 0 then f_Model_refuse (1 : Int32) I1 J1 (fun r24 I24 J24 => Q r24 I24 J24) else vp_in x1 16 ∧ ∀ I34 : MI, I34 = sI I1 183 (upd (I1 183) x1.toNatClampNeg (vp_nar .boolean 0)) → vp_in x1 16 ∧ f_Model_done (I34 182 x1.toNatClampNeg) I34 J1 (fun r42 I42 J42 => Q r42 I42 J42))))
set_option maxRecDepth 100000 in
set_option maxHeartbeats 4000000 in
theorem w_Model_raise_b0 {Γ : Ctx} {Q : Int32 → MI → MJ → Prop} {x1 : Int32}  (X : Cx Γ cX11_raise 2 RX11 1) (Y : Rt Γ (Pi Q) (Option.some Jvm.ClassFile.FieldType.int))   {I : MI} {J : MJ} (h : f_Model_raise x1 I J Q) : Wp Γ 2 0 [(0, .ref (ad Γ 177)), (1, .int x1)] [] I J := by
  unfold f_Model_raise at h
  refine wp_iload_n X dX11_raise_0 1 rfl ?_
  refine cs_Model_isPlace X dX11_raise_1 ml_X11_145  h (Nat.le_of_ble_eq_true rfl) (by decide) (fun r1 I1 J1 h => ?_)
  refine wp_if_ne (tgt := 13) X dX11_raise_4 (by decide) (fun hc => ?_) (fun hc => ?_)
  · have h := ite_f h hc
    refine wp_aload_n X dX11_raise_13 0 rfl ?_
    refine gf_X11_26 (o' := 183) X sh_177 rfl dX11_raise_14 ?_
    refine wp_iload_n X dX11_raise_17 1 rfl ?_
    obtain ⟨hb18, h⟩ := h
    refine wp_zald X sh_183 hb18 dX11_raise_18 ?_
    refine wp_if_ne (tgt := 28) X dX11_raise_19 (by decide) (fun hc => ?_) (fun hc => ?_)
    · have h := ite_f h hc
      refine wp_aload_n X dX11_raise_28 0 rfl ?_
      refine gf_X11_26 (o' := 183) X sh_177 rfl dX11_raise_29 ?_
      refine wp_iload_n X dX11_raise_32 1 rfl ?_
      refine wp_iconst X dX11_raise_33 ic_0 ?_
      obtain ⟨hb34, h⟩ := h
      refine wp_zast X sh_183 hb34 dX11_raise_34 ?_
      refine wp_memI (fun I34 eI34 => ?_)
      have h := h I34 eI34
      refine wp_aload_n X dX11_raise_35 0 rfl ?_
      refine wp_aload_n X dX11_raise_36 0 rfl ?_
      refine gf_X11_23 (o' := 182) X sh_177 rfl dX11_raise_37 ?_
      refine wp_iload_n X dX11_raise_40 1 rfl ?_
      obtain ⟨hb41, h⟩ := h
      refine wp_iald X sh_182 hb41 dX11_raise_41 ?_
      refine cv_Model_done X dX11_raise_42 ml_X11_157  h (Nat.le_of_ble_eq_true rfl) (by decide) (fun r42 I42 J42 h => ?_)
      exact wp_iret X Y dX11_raise_45 ⟨_, rfl, h⟩
    · have h := ite_t h hc
      refine wp_aload_n X dX11_raise_22 0 rfl ?_
      refine wp_iconst X dX11_raise_23 ic_1 ?_
      refine cv_Model_refuse X dX11_raise_24 ml_X11_219  h (Nat.le_of_ble_eq_true rfl) (by decide) (fun r24 I24 J24 h => ?_)
      exact wp_iret X Y dX11_raise_27 ⟨_, rfl, h⟩
  · have h := ite_t h hc
    refine wp_aload_n X dX11_raise_7 0 rfl ?_
    refine wp_iconst X dX11_raise_8 ic_2 ?_
    refine cv_Model_refuse X dX11_raise_9 ml_X11_219  h (Nat.le_of_ble_eq_true rfl) (by decide) (fun r9 I9 J9 h => ?_)
    exact wp_iret X Y dX11_raise_12 ⟨_, rfl, h⟩

theorem c_Model_raise {l : Launch} {g : GE} (hg : Inj g) {I : MI} {J : MJ} {Q : Int32 → MI → MJ → Prop} {x1 : Int32}  (h : f_Model_raise x1 I J Q) : Cm l g yX11_raise cX11_raise 2 (Option.some Jvm.ClassFile.FieldType.int) 1 [.ref (g.1 177), .int x1] I J (Pi Q) := by
  refine Cm.of (As := fun ad => [.ref (ad 177), .int x1]) hg pn_X11 (Nat.le_of_ble_eq_true rfl) ?_
  exact (fun Γ _ _ X Y => w_Model_raise_b0 X Y  h)
theorem cv_Model_raise {Γ : Ctx} {cc : ByteArray} {nL d pc index : Nat} {own : String} {L : List (Nat × Value)} {rest : List Value} {I : MI} {J : MJ} {Q : Int32 → MI → MJ → Prop} {x1 : Int32} (X : Cx Γ cc nL own d) (hd : decode cc pc = .ok (.invokevirtual index, 3)) (hlink : Cond.methodLink own index yX11_raise ∈ TT)  (h : f_Model_raise x1 I J Q) (hrest : (rest.map fun v => v.category).sum ≤ 8) (hdd : 1 + 1 ≤ d) (kk : ∀ (r : Int32) (I' : MI) (J' : MJ), Q r I' J' → Wp Γ nL (pc + 3) L (.int r :: rest) I' J') : Wp Γ nL pc L (.int x1 :: .ref (ad Γ 177) :: rest) I J :=
  wp_callV (As := [.int x1]) (rest := rest) (T := TX11) (N := 62) X hd hlink mv_X11_raise sh_177 (by decide) rfl (c_Model_raise X.inj  h) rfl rfl hrest hdd (fun v I' J' hv => by obtain ⟨r, rfl, hq⟩ := hv; exact kk r I' J' hq)
theorem dX11_status_0 : decode cX11_status 0 = .ok (.aload_n 0, 1) := by decide +kernel
theorem dX11_status_1 : decode cX11_status 1 = .ok (.getfield 141, 3) := by decide +kernel
theorem dX11_status_4 : decode cX11_status 4 = .ok (.ireturn, 1) := by decide +kernel
def f_Model_status (I : MI) (J : MJ) (Q : Int32 → MI → MJ → Prop) : Prop :=
  Q (I 177 13) I J
set_option maxRecDepth 100000 in
set_option maxHeartbeats 4000000 in
theorem w_Model_status_b0 {Γ : Ctx} {Q : Int32 → MI → MJ → Prop}   (X : Cx Γ cX11_status 1 RX11 0) (Y : Rt Γ (Pi Q) (Option.some Jvm.ClassFile.FieldType.int))   {I : MI} {J : MJ} (h : f_Model_status  I J Q) : Wp Γ 1 0 [(0, .ref (ad Γ 177))] [] I J := by
  unfold f_Model_status at h
  refine wp_aload_n X dX11_status_0 0 rfl ?_
  refine gf_X11_141 X sh_177 dX11_status_1 ?_
  exact wp_iret X Y dX11_status_4 ⟨_, rfl, h⟩

theorem c_Model_status {l : Launch} {g : GE} (hg : Inj g) {I : MI} {J : MJ} {Q : Int32 → MI → MJ → Prop}   (h : f_Model_status  I J Q) : Cm l g yX11_status cX11_status 1 (Option.some Jvm.ClassFile.FieldType.int) 0 [.ref (g.1 177)] I J (Pi Q) := by
  refine Cm.of (As := fun ad => [.ref (ad 177)]) hg pn_X11 (Nat.le_of_ble_eq_true rfl) ?_
  exact (fun Γ _ _ X Y => w_Model_status_b0 X Y  h)
theorem cv_Model_status {Γ : Ctx} {cc : ByteArray} {nL d pc index : Nat} {own : String} {L : List (Nat × Value)} {rest : List Value} {I : MI} {J : MJ} {Q : Int32 → MI → MJ → Prop}  (X : Cx Γ cc nL own d) (hd : decode cc pc = .ok (.invokevirtual index, 3)) (hlink : Cond.methodLink own index yX11_status ∈ TT)  (h : f_Model_status  I J Q) (hrest : (rest.map fun v => v.category).sum ≤ 8) (hdd : 0 + 1 ≤ d) (kk : ∀ (r : Int32) (I' : MI) (J' : MJ), Q r I' J' → Wp Γ nL (pc + 3) L (.int r :: rest) I' J') : Wp Γ nL pc L (.ref (ad Γ 177) :: rest) I J :=
  wp_callV (As := []) (rest := rest) (T := TX11) (N := 62) X hd hlink mv_X11_status sh_177 (by decide) rfl (c_Model_status X.inj  h) rfl rfl hrest hdd (fun v I' J' hv => by obtain ⟨r, rfl, hq⟩ := hv; exact kk r I' J' hq)
