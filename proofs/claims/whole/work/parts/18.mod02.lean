theorem dX11_isGone_0 : decode cX11_isGone 0 = .ok (.iconst 0, 1) := by decide +kernel
theorem dX11_isGone_1 : decode cX11_isGone 1 = .ok (.istore 4, 2) := by decide +kernel
theorem dX11_isGone_3 : decode cX11_isGone 3 = .ok (.iconst 0, 1) := by decide +kernel
theorem dX11_isGone_4 : decode cX11_isGone 4 = .ok (.istore 5, 2) := by decide +kernel
theorem dX11_isGone_6 : decode cX11_isGone 6 = .ok (.iload 5, 2) := by decide +kernel
theorem dX11_isGone_8 : decode cX11_isGone 8 = .ok (.aload_n 0, 1) := by decide +kernel
theorem dX11_isGone_9 : decode cX11_isGone 9 = .ok (.getfield 20, 3) := by decide +kernel
theorem dX11_isGone_12 : decode cX11_isGone 12 = .ok (.iload_n 1, 1) := by decide +kernel
theorem dX11_isGone_13 : decode cX11_isGone 13 = .ok (.iaload, 1) := by decide +kernel
theorem dX11_isGone_14 : decode cX11_isGone 14 = .ok (.if_icmp .ge 38, 3) := by decide +kernel
theorem dX11_isGone_17 : decode cX11_isGone 17 = .ok (.iload 4, 2) := by decide +kernel
theorem dX11_isGone_19 : decode cX11_isGone 19 = .ok (.ifCond .ne 20, 3) := by decide +kernel
theorem dX11_isGone_22 : decode cX11_isGone 22 = .ok (.aload_n 0, 1) := by decide +kernel
theorem dX11_isGone_23 : decode cX11_isGone 23 = .ok (.getfield 16, 3) := by decide +kernel
theorem dX11_isGone_26 : decode cX11_isGone 26 = .ok (.bipush 8, 2) := by decide +kernel
theorem dX11_isGone_28 : decode cX11_isGone 28 = .ok (.iload_n 1, 1) := by decide +kernel
theorem dX11_isGone_29 : decode cX11_isGone 29 = .ok (.imul, 1) := by decide +kernel
theorem dX11_isGone_30 : decode cX11_isGone 30 = .ok (.iload 5, 2) := by decide +kernel
theorem dX11_isGone_32 : decode cX11_isGone 32 = .ok (.iadd, 1) := by decide +kernel
theorem dX11_isGone_33 : decode cX11_isGone 33 = .ok (.laload, 1) := by decide +kernel
theorem dX11_isGone_34 : decode cX11_isGone 34 = .ok (.lload_n 2, 1) := by decide +kernel
theorem dX11_isGone_35 : decode cX11_isGone 35 = .ok (.lcmp, 1) := by decide +kernel
theorem dX11_isGone_36 : decode cX11_isGone 36 = .ok (.ifCond .ne 7, 3) := by decide +kernel
theorem dX11_isGone_39 : decode cX11_isGone 39 = .ok (.iconst 1, 1) := by decide +kernel
theorem dX11_isGone_40 : decode cX11_isGone 40 = .ok (.goto 4, 3) := by decide +kernel
theorem dX11_isGone_43 : decode cX11_isGone 43 = .ok (.iconst 0, 1) := by decide +kernel
theorem dX11_isGone_44 : decode cX11_isGone 44 = .ok (.istore 4, 2) := by decide +kernel
theorem dX11_isGone_46 : decode cX11_isGone 46 = .ok (.iinc 5 1, 3) := by decide +kernel
theorem dX11_isGone_49 : decode cX11_isGone 49 = .ok (.goto (-43), 3) := by decide +kernel
theorem dX11_isGone_52 : decode cX11_isGone 52 = .ok (.iload 4, 2) := by decide +kernel
theorem dX11_isGone_54 : decode cX11_isGone 54 = .ok (.ireturn, 1) := by decide +kernel
def f_Model_isGone_b44 (x5 : Int32) (s0 : Int32) (kh : Int32 → Int32 → MI → MJ → Prop) (I : MI) (J : MJ) : Prop :=
  ∀ t46 : Int32, t46 = x5 + 1 → kh s0 t46 I J
def f_Model_isGone_b39 (x5 : Int32) (kh : Int32 → Int32 → MI → MJ → Prop) (I : MI) (J : MJ) : Prop :=
  f_Model_isGone_b44 x5 1 kh I J
def f_Model_isGone_L6 (x1 : Int32) (x2 : Int64) (k52 : Int32 → MI → MJ → Prop) : Nat → Int32 → Int32 → MI → MJ → Prop
  | 0, _, _, _, _ => False
  | nf6 + 1, x4, x5, I, J =>
  vp_in x1 16 ∧ (if (I 181 x1.toNatClampNeg) ≤ x5 then k52 x4 I J else (if x4 = 0 then vp_in ((8 * x1) + x5) 128 ∧ (if (J 180 ((8 * x1) + x5).toNatClampNeg) = x2 then f_Model_isGone_b39 x5 (f_Model_isGone_L6 x1 x2 k52 nf6) I J else f_Model_isGone_b44 x5 0 (f_Model_isGone_L6 x1 x2 k52 nf6) I J) else f_Model_isGone_b39 x5 (f_Model_isGone_L6 x1 x2 k52 nf6) I J))
def f_Model_isGone (x1 : Int32) (x2 : Int64) (I : MI) (J : MJ) (Q : Int32 → MI → MJ → Prop) : Prop :=
  ∃ n, f_Model_isGone_L6 x1 x2 (fun (z52_x4 : Int32) (I : MI) (J : MJ) => (z52_x4 = 0 ∨ z52_x4 = 1) ∧ Q z52_x4 I J) n 0 0 I J
set_option maxRecDepth 100000 in
set_option maxHeartbeats 4000000 in
theorem w_Model_isGone_b44 {Γ : Ctx} {Q : Int32 → MI → MJ → Prop} {x1 : Int32} {x2 : Int64} {x5 : Int32} {s0 : Int32} {kh : Int32 → Int32 → MI → MJ → Prop} (X : Cx Γ cX11_isGone 6 RX11 0) (Y : Rt Γ (Pi Q) (Option.some Jvm.ClassFile.FieldType.boolean))  (hkh : ∀ (x4 : Int32) (x5 : Int32) (I : MI) (J : MJ), kh x4 x5 I J → Wp Γ 6 6 [(0, .ref (ad Γ 177)), (1, .int x1), (2, .long x2), (4, .int x4), (5, .int x5)] [] I J) {I : MI} {J : MJ} (h : f_Model_isGone_b44 x5 s0 kh I J) : Wp Γ 6 44 [(0, .ref (ad Γ 177)), (1, .int x1), (2, .long x2), (5, .int x5)] [.int s0] I J := by
  unfold f_Model_isGone_b44 at h
  refine wp_istore (L' := [(4, .int s0), (0, .ref (ad Γ 177)), (1, .int x1), (2, .long x2), (5, .int x5)]) X dX11_isGone_44 (by decide) rfl ?_
  obtain ⟨t46, et46⟩ : ∃ y : Int32, y = x5 + 1 := ⟨_, rfl⟩
  have h := h t46 et46
  refine wp_iinc (L' := [(5, .int t46), (4, .int s0), (0, .ref (ad Γ 177)), (1, .int x1), (2, .long x2)]) X dX11_isGone_46 4 rfl (ii_1 et46) (by decide) rfl ?_
  refine wp_goto (tgt := 6) X dX11_isGone_49 (by decide) ?_
  refine wp_sub X [2, 3, 4, 1, 0] rfl ?_
  exact hkh _ _ _ _ h

set_option maxRecDepth 100000 in
set_option maxHeartbeats 4000000 in
theorem w_Model_isGone_b39 {Γ : Ctx} {Q : Int32 → MI → MJ → Prop} {x1 : Int32} {x2 : Int64} {x5 : Int32} {kh : Int32 → Int32 → MI → MJ → Prop} (X : Cx Γ cX11_isGone 6 RX11 0) (Y : Rt Γ (Pi Q) (Option.some Jvm.ClassFile.FieldType.boolean))  (hkh : ∀ (x4 : Int32) (x5 : Int32) (I : MI) (J : MJ), kh x4 x5 I J → Wp Γ 6 6 [(0, .ref (ad Γ 177)), (1, .int x1), (2, .long x2), (4, .int x4), (5, .int x5)] [] I J) {I : MI} {J : MJ} (h : f_Model_isGone_b39 x5 kh I J) : Wp Γ 6 39 [(0, .ref (ad Γ 177)), (1, .int x1), (2, .long x2), (5, .int x5)] [] I J := by
  unfold f_Model_isGone_b39 at h
  refine wp_iconst X dX11_isGone_39 ic_1 ?_
  refine wp_goto (tgt := 44) X dX11_isGone_40 (by decide) ?_
  exact w_Model_isGone_b44 X Y hkh h

set_option maxRecDepth 100000 in
set_option maxHeartbeats 4000000 in
theorem w_Model_isGone_L6 {Γ : Ctx} {Q : Int32 → MI → MJ → Prop} {x1 : Int32} {x2 : Int64} {k52 : Int32 → MI → MJ → Prop} (X : Cx Γ cX11_isGone 6 RX11 0) (Y : Rt Γ (Pi Q) (Option.some Jvm.ClassFile.FieldType.boolean))  (hk52 : ∀ (x4 : Int32) (I : MI) (J : MJ), k52 x4 I J → Wp Γ 6 52 [(4, .int x4)] [] I J) : ∀ (n : Nat) (x4 : Int32) (x5 : Int32) (I : MI) (J : MJ), f_Model_isGone_L6 x1 x2 k52 n x4 x5 I J → Wp Γ 6 6 [(0, .ref (ad Γ 177)), (1, .int x1), (2, .long x2), (4, .int x4), (5, .int x5)] [] I J := by
  intro n
  induction n with
  | zero => intro x4 x5 I J h; exact absurd h (by simp [f_Model_isGone_L6])
  | succ n ih =>
  intro x4 x5 I J h
  unfold f_Model_isGone_L6 at h
  refine wp_iload X dX11_isGone_6 4 rfl ?_
  refine wp_aload_n X dX11_isGone_8 0 rfl ?_
  refine gf_X11_20 (o' := 181) X sh_177 rfl dX11_isGone_9 ?_
  refine wp_iload_n X dX11_isGone_12 1 rfl ?_
  obtain ⟨hb13, h⟩ := h
  refine wp_iald X sh_181 hb13 dX11_isGone_13 ?_
  refine wp_icmp_ge (tgt := 52) X dX11_isGone_14 (by decide) (fun hc => ?_) (fun hc => ?_)
  · have h := ite_t h hc
    refine wp_sub X [3] rfl ?_
    exact hk52 _ _ _ h
  · have h := ite_f h hc
    refine wp_iload X dX11_isGone_17 3 rfl ?_
    refine wp_if_ne (tgt := 39) X dX11_isGone_19 (by decide) (fun hc => ?_) (fun hc => ?_)
    · have h := ite_f h hc
      refine wp_sub X [0, 1, 2, 4] rfl ?_
      exact w_Model_isGone_b39 X Y ih h
    · have h := ite_t h hc
      refine wp_aload_n X dX11_isGone_22 0 rfl ?_
      refine gf_X11_16 (o' := 180) X sh_177 rfl dX11_isGone_23 ?_
      refine wp_bipush X dX11_isGone_26 bi_8 ?_
      refine wp_iload_n X dX11_isGone_28 1 rfl ?_
      refine wp_imul X dX11_isGone_29 ?_
      refine wp_iload X dX11_isGone_30 4 rfl ?_
      refine wp_iadd X dX11_isGone_32 ?_
      obtain ⟨hb33, h⟩ := h
      refine wp_lald X sh_180 hb33 dX11_isGone_33 ?_
      refine wp_lload_n X dX11_isGone_34 2 rfl ?_
      refine wp_lcmp_ne (tgt := 43) X dX11_isGone_35 dX11_isGone_36 (by decide) (fun hc => ?_) (fun hc => ?_)
      · have h := ite_f h hc
        refine wp_iconst X dX11_isGone_43 ic_0 ?_
        refine wp_sub X [0, 1, 2, 4] rfl ?_
        exact w_Model_isGone_b44 X Y ih h
      · have h := ite_t h hc
        refine wp_sub X [0, 1, 2, 4] rfl ?_
        exact w_Model_isGone_b39 X Y ih h

set_option maxRecDepth 100000 in
set_option maxHeartbeats 4000000 in
theorem w_Model_isGone_b0 {Γ : Ctx} {Q : Int32 → MI → MJ → Prop} {x1 : Int32} {x2 : Int64}  (X : Cx Γ cX11_isGone 6 RX11 0) (Y : Rt Γ (Pi Q) (Option.some Jvm.ClassFile.FieldType.boolean))   {I : MI} {J : MJ} (h : f_Model_isGone x1 x2 I J Q) : Wp Γ 6 0 [(0, .ref (ad Γ 177)), (1, .int x1), (2, .long x2)] [] I J := by
  unfold f_Model_isGone at h
  refine wp_iconst X dX11_isGone_0 ic_0 ?_
  refine wp_istore (L' := [(4, .int 0), (0, .ref (ad Γ 177)), (1, .int x1), (2, .long x2)]) X dX11_isGone_1 (by decide) rfl ?_
  refine wp_iconst X dX11_isGone_3 ic_0 ?_
  refine wp_istore (L' := [(5, .int 0), (4, .int 0), (0, .ref (ad Γ 177)), (1, .int x1), (2, .long x2)]) X dX11_isGone_4 (by decide) rfl ?_
  obtain ⟨n, h⟩ := h
  refine wp_sub X [2, 3, 4, 1, 0] rfl ?_
  refine w_Model_isGone_L6 X Y  ?_ n _ _ _ _ h
  · intro z52_x4 I J h
    refine wp_iload X dX11_isGone_52 0 rfl ?_
    exact wp_zret X Y dX11_isGone_54 h.1 ⟨_, rfl, h.2⟩

theorem c_Model_isGone {l : Launch} {g : GE} (hg : Inj g) {I : MI} {J : MJ} {Q : Int32 → MI → MJ → Prop} {x1 : Int32} {x2 : Int64}  (h : f_Model_isGone x1 x2 I J Q) : Cm l g yX11_isGone cX11_isGone 6 (Option.some Jvm.ClassFile.FieldType.boolean) 0 [.ref (g.1 177), .int x1, .long x2] I J (Pi Q) := by
  refine Cm.of (As := fun ad => [.ref (ad 177), .int x1, .long x2]) hg pn_X11 (Nat.le_of_ble_eq_true rfl) ?_
  exact (fun Γ _ _ X Y => w_Model_isGone_b0 X Y  h)
theorem cv_Model_isGone {Γ : Ctx} {cc : ByteArray} {nL d pc index : Nat} {own : String} {L : List (Nat × Value)} {rest : List Value} {I : MI} {J : MJ} {Q : Int32 → MI → MJ → Prop} {x1 : Int32} {x2 : Int64} (X : Cx Γ cc nL own d) (hd : decode cc pc = .ok (.invokevirtual index, 3)) (hlink : Cond.methodLink own index yX11_isGone ∈ TT)  (h : f_Model_isGone x1 x2 I J Q) (hrest : (rest.map fun v => v.category).sum ≤ 8) (hdd : 0 + 1 ≤ d) (kk : ∀ (r : Int32) (I' : MI) (J' : MJ), Q r I' J' → Wp Γ nL (pc + 3) L (.int r :: rest) I' J') : Wp Γ nL pc L (.long x2 :: .int x1 :: .ref (ad Γ 177) :: rest) I J :=
  wp_callV (As := [.int x1, .long x2]) (rest := rest) (T := TX11) (N := 62) X hd hlink mv_X11_isGone sh_177 (by decide) rfl (c_Model_isGone X.inj  h) rfl rfl hrest hdd (fun v I' J' hv => by obtain ⟨r, rfl, hq⟩ := hv; exact kk r I' J' hq)
theorem dX11_isWord_0 : decode cX11_isWord 0 = .ok (.lload_n 0, 1) := by decide +kernel
theorem dX11_isWord_1 : decode cX11_isWord 1 = .ok (.invokestatic 161, 3) := by decide +kernel
theorem dX11_isWord_4 : decode cX11_isWord 4 = .ok (.ifCond .lt 7, 3) := by decide +kernel
theorem dX11_isWord_7 : decode cX11_isWord 7 = .ok (.iconst 1, 1) := by decide +kernel
theorem dX11_isWord_8 : decode cX11_isWord 8 = .ok (.goto 4, 3) := by decide +kernel
theorem dX11_isWord_11 : decode cX11_isWord 11 = .ok (.iconst 0, 1) := by decide +kernel
theorem dX11_isWord_12 : decode cX11_isWord 12 = .ok (.ireturn, 1) := by decide +kernel
def f_Model_isWord (x0 : Int64) (I : MI) (J : MJ) (Q : Int32 → MI → MJ → Prop) : Prop :=
  f_Model_lengthOf x0 I J (fun r1 I1 J1 => (if r1 < 0 then Q 0 I1 J1 else Q 1 I1 J1))
set_option maxRecDepth 100000 in
set_option maxHeartbeats 4000000 in
theorem w_Model_isWord_b0 {Γ : Ctx} {Q : Int32 → MI → MJ → Prop} {x0 : Int64}  (X : Cx Γ cX11_isWord 2 RX11 1) (Y : Rt Γ (Pi Q) (Option.some Jvm.ClassFile.FieldType.boolean))   {I : MI} {J : MJ} (h : f_Model_isWord x0 I J Q) : Wp Γ 2 0 [(0, .long x0)] [] I J := by
  unfold f_Model_isWord at h
  refine wp_lload_n X dX11_isWord_0 0 rfl ?_
  refine cs_Model_lengthOf X dX11_isWord_1 ml_X11_161  h (Nat.le_of_ble_eq_true rfl) (by decide) (fun r1 I1 J1 h => ?_)
  refine wp_if_lt (tgt := 11) X dX11_isWord_4 (by decide) (fun hc => ?_) (fun hc => ?_)
  · have h := ite_t h hc
    refine wp_iconst X dX11_isWord_11 ic_0 ?_
    exact wp_zret X Y dX11_isWord_12 (by decide) ⟨_, rfl, h⟩
  · have h := ite_f h hc
    refine wp_iconst X dX11_isWord_7 ic_1 ?_
    refine wp_goto (tgt := 12) X dX11_isWord_8 (by decide) ?_
    exact wp_zret X Y dX11_isWord_12 (by decide) ⟨_, rfl, h⟩

theorem c_Model_isWord {l : Launch} {g : GE} (hg : Inj g) {I : MI} {J : MJ} {Q : Int32 → MI → MJ → Prop} {x0 : Int64}  (h : f_Model_isWord x0 I J Q) : Cm l g yX11_isWord cX11_isWord 2 (Option.some Jvm.ClassFile.FieldType.boolean) 1 [.long x0] I J (Pi Q) := by
  refine Cm.of (As := fun ad => [.long x0]) hg pn_X11 (Nat.le_of_ble_eq_true rfl) ?_
  exact (fun Γ _ _ X Y => w_Model_isWord_b0 X Y  h)
theorem cs_Model_isWord {Γ : Ctx} {cc : ByteArray} {nL d pc index : Nat} {own : String} {L : List (Nat × Value)} {rest : List Value} {I : MI} {J : MJ} {Q : Int32 → MI → MJ → Prop} {x0 : Int64} (X : Cx Γ cc nL own d) (hd : decode cc pc = .ok (.invokestatic index, 3)) (hlink : Cond.methodLink own index yX11_isWord ∈ TT)  (h : f_Model_isWord x0 I J Q) (hrest : (rest.map fun v => v.category).sum ≤ 8) (hdd : 1 + 1 ≤ d) (kk : ∀ (r : Int32) (I' : MI) (J' : MJ), Q r I' J' → Wp Γ nL (pc + 3) L (.int r :: rest) I' J') : Wp Γ nL pc L (.long x0 :: rest) I J :=
  wp_callS (As := [.long x0]) (rest := rest) X hd hlink mv_X11_isWord (c_Model_isWord X.inj  h) rfl rfl hrest hdd (fun v I' J' hv => by obtain ⟨r, rfl, hq⟩ := hv; exact kk r I' J' hq)
theorem dX11_answer_0 : decode cX11_answer 0 = .ok (.iload_n 1, 1) := by decide +kernel
theorem dX11_answer_1 : decode cX11_answer 1 = .ok (.invokestatic 145, 3) := by decide +kernel
theorem dX11_answer_4 : decode cX11_answer 4 = .ok (.ifCond .eq 19, 3) := by decide +kernel
theorem dX11_answer_7 : decode cX11_answer 7 = .ok (.aload_n 0, 1) := by decide +kernel
theorem dX11_answer_8 : decode cX11_answer 8 = .ok (.getfield 7, 3) := by decide +kernel
theorem dX11_answer_11 : decode cX11_answer 11 = .ok (.iload_n 1, 1) := by decide +kernel
theorem dX11_answer_12 : decode cX11_answer 12 = .ok (.iaload, 1) := by decide +kernel
theorem dX11_answer_13 : decode cX11_answer 13 = .ok (.ifCond .lt 10, 3) := by decide +kernel
theorem dX11_answer_16 : decode cX11_answer 16 = .ok (.lload_n 2, 1) := by decide +kernel
theorem dX11_answer_17 : decode cX11_answer 17 = .ok (.invokestatic 245, 3) := by decide +kernel
theorem dX11_answer_20 : decode cX11_answer 20 = .ok (.ifCond .ne 5, 3) := by decide +kernel
theorem dX11_answer_23 : decode cX11_answer 23 = .ok (.iconst (-1), 1) := by decide +kernel
theorem dX11_answer_24 : decode cX11_answer 24 = .ok (.ireturn, 1) := by decide +kernel
theorem dX11_answer_25 : decode cX11_answer 25 = .ok (.aload_n 0, 1) := by decide +kernel
theorem dX11_answer_26 : decode cX11_answer 26 = .ok (.getfield 7, 3) := by decide +kernel
theorem dX11_answer_29 : decode cX11_answer 29 = .ok (.iload_n 1, 1) := by decide +kernel
theorem dX11_answer_30 : decode cX11_answer 30 = .ok (.iaload, 1) := by decide +kernel
theorem dX11_answer_31 : decode cX11_answer 31 = .ok (.iconst 3, 1) := by decide +kernel
theorem dX11_answer_32 : decode cX11_answer 32 = .ok (.if_icmp .le 17, 3) := by decide +kernel
theorem dX11_answer_35 : decode cX11_answer 35 = .ok (.aload_n 0, 1) := by decide +kernel
theorem dX11_answer_36 : decode cX11_answer 36 = .ok (.iload_n 1, 1) := by decide +kernel
theorem dX11_answer_37 : decode cX11_answer 37 = .ok (.lload_n 2, 1) := by decide +kernel
theorem dX11_answer_38 : decode cX11_answer 38 = .ok (.invokevirtual 249, 3) := by decide +kernel
theorem dX11_answer_41 : decode cX11_answer 41 = .ok (.ifCond .eq 8, 3) := by decide +kernel
theorem dX11_answer_44 : decode cX11_answer 44 = .ok (.bipush 9, 2) := by decide +kernel
theorem dX11_answer_46 : decode cX11_answer 46 = .ok (.goto 9, 3) := by decide +kernel
theorem dX11_answer_49 : decode cX11_answer 49 = .ok (.aload_n 0, 1) := by decide +kernel
theorem dX11_answer_50 : decode cX11_answer 50 = .ok (.iload_n 1, 1) := by decide +kernel
theorem dX11_answer_51 : decode cX11_answer 51 = .ok (.lload_n 2, 1) := by decide +kernel
theorem dX11_answer_52 : decode cX11_answer 52 = .ok (.invokevirtual 253, 3) := by decide +kernel
theorem dX11_answer_55 : decode cX11_answer 55 = .ok (.ireturn, 1) := by decide +kernel
def f_Model_answer_b49 (x1 : Int32) (x2 : Int64) (Q : Int32 → MI → MJ → Prop) (I : MI) (J : MJ) : Prop :=
  f_Model_answerBy x1 x2 I J (fun r52 I52 J52 => Q r52 I52 J52)
def f_Model_answer (x1 : Int32) (x2 : Int64) (I : MI) (J : MJ) (Q : Int32 → MI → MJ → Prop) : Prop :=
  f_Model_isPlace x1 I J (fun r1 I1 J1 => (if r1 = 0 then Q (-1) I1 J1 else vp_in x1 16 ∧ (if (I1 178 x1.toNatClampNeg) < 0 then Q (-1) I1 J1 else f_Model_isWord x2 I1 J1 (fun r17 I17 J17 => (if r17 = 0 then Q (-1) I17 J17 else vp_in x1 16 ∧ (if (I17 178 x1.toNatClampNeg) ≤ 3 then f_Model_answer_b49 x1 x2 Q I17 J17 else f_Model_isGone x1 x2 I17 J17 (fun r38 I38 J38 => (if r38 = 0 then f_Model_answer_b49 x1 x2 Q I38 J38 else Q 9 I38 J38))))))))
set_option maxRecDepth 100000 in
set_option maxHeartbeats 4000000 in
theorem w_Model_answer_b49 {Γ : Ctx} {Q : Int32 → MI → MJ → Prop} {x1 : Int32} {x2 : Int64}  (X : Cx Γ cX11_answer 4 RX11 4) (Y : Rt Γ (Pi Q) (Option.some Jvm.ClassFile.FieldType.int))   {I : MI} {J : MJ} (h : f_Model_answer_b49 x1 x2 Q I J) : Wp Γ 4 49 [(0, .ref (ad Γ 177)), (1, .int x1), (2, .long x2)] [] I J := by
  unfold f_Model_answer_b49 at h
  refine wp_aload_n X dX11_answer_49 0 rfl ?_
  refine wp_iload_n X dX11_answer_50 1 rfl ?_
  refine wp_lload_n X dX11_answer_51 2 rfl ?_
  refine cv_Model_answerBy X dX11_answer_52 ml_X11_253  h (Nat.le_of_ble_eq_true rfl) (by decide) (fun r52 I52 J52 h => ?_)
  exact wp_iret X Y dX11_answer_55 ⟨_, rfl, h⟩

set_option maxRecDepth 100000 in
set_option maxHeartbeats 4000000 in
theorem w_Model_answer_b0 {Γ : Ctx} {Q : Int32 → MI → MJ → Prop} {x1 : Int32} {x2 : Int64}  (X : Cx Γ cX11_answer 4 RX11 4) (Y : Rt Γ (Pi Q) (Option.some Jvm.ClassFile.FieldType.int))   {I : MI} {J : MJ} (h : f_Model_answer x1 x2 I J Q) : Wp Γ 4 0 [(0, .ref (ad Γ 177)), (1, .int x1), (2, .long x2)] [] I J := by
  unfold f_Model_answer at h
  refine wp_iload_n X dX11_answer_0 1 rfl ?_
  refine cs_Model_isPlace X dX11_answer_1 ml_X11_145  h (Nat.le_of_ble_eq_true rfl) (by decide) (fun r1 I1 J1 h => ?_)
  refine wp_if_eq (tgt := 23) X dX11_answer_4 (by decide) (fun hc => ?_) (fun hc => ?_)
  · have h := ite_t h hc
    refine wp_iconst X dX11_answer_23 ic_m1 ?_
    exact wp_iret X Y dX11_answer_24 ⟨_, rfl, h⟩
  · have h := ite_f h hc
    refine wp_aload_n X dX11_answer_7 0 rfl ?_
    refine gf_X11_7 (o' := 178) X sh_177 rfl dX11_answer_8 ?_
    refine wp_iload_n X dX11_answer_11 1 rfl ?_
    obtain ⟨hb12, h⟩ := h
    refine wp_iald X sh_178 hb12 dX11_answer_12 ?_
    refine wp_if_lt (tgt := 23) X dX11_answer_13 (by decide) (fun hc => ?_) (fun hc => ?_)
    · have h := ite_t h hc
      refine wp_iconst X dX11_answer_23 ic_m1 ?_
      exact wp_iret X Y dX11_answer_24 ⟨_, rfl, h⟩
    · have h := ite_f h hc
      refine wp_lload_n X dX11_answer_16 2 rfl ?_
      refine cs_Model_isWord X dX11_answer_17 ml_X11_245  h (Nat.le_of_ble_eq_true rfl) (by decide) (fun r17 I17 J17 h => ?_)
      refine wp_if_ne (tgt := 25) X dX11_answer_20 (by decide) (fun hc => ?_) (fun hc => ?_)
      · have h := ite_f h hc
        refine wp_aload_n X dX11_answer_25 0 rfl ?_
        refine gf_X11_7 (o' := 178) X sh_177 rfl dX11_answer_26 ?_
        refine wp_iload_n X dX11_answer_29 1 rfl ?_
        obtain ⟨hb30, h⟩ := h
        refine wp_iald X sh_178 hb30 dX11_answer_30 ?_
        refine wp_iconst X dX11_answer_31 ic_3 ?_
        refine wp_icmp_le (tgt := 49) X dX11_answer_32 (by decide) (fun hc => ?_) (fun hc => ?_)
        · have h := ite_t h hc
          exact w_Model_answer_b49 X Y  h
        · have h := ite_f h hc
          refine wp_aload_n X dX11_answer_35 0 rfl ?_
          refine wp_iload_n X dX11_answer_36 1 rfl ?_
          refine wp_lload_n X dX11_answer_37 2 rfl ?_
          refine cv_Model_isGone X dX11_answer_38 ml_X11_249  h (Nat.le_of_ble_eq_true rfl) (by decide) (fun r38 I38 J38 h => ?_)
          refine wp_if_eq (tgt := 49) X dX11_answer_41 (by decide) (fun hc => ?_) (fun hc => ?_)
          · have h := ite_t h hc
            exact w_Model_answer_b49 X Y  h
          · have h := ite_f h hc
            refine wp_bipush X dX11_answer_44 bi_9 ?_
            refine wp_goto (tgt := 55) X dX11_answer_46 (by decide) ?_
            exact wp_iret X Y dX11_answer_55 ⟨_, rfl, h⟩
      · have h := ite_t h hc
        refine wp_iconst X dX11_answer_23 ic_m1 ?_
        exact wp_iret X Y dX11_answer_24 ⟨_, rfl, h⟩

theorem c_Model_answer {l : Launch} {g : GE} (hg : Inj g) {I : MI} {J : MJ} {Q : Int32 → MI → MJ → Prop} {x1 : Int32} {x2 : Int64}  (h : f_Model_answer x1 x2 I J Q) : Cm l g yX11_answer cX11_answer 4 (Option.some Jvm.ClassFile.FieldType.int) 4 [.ref (g.1 177), .int x1, .long x2] I J (Pi Q) := by
  refine Cm.of (As := fun ad => [.ref (ad 177), .int x1, .long x2]) hg pn_X11 (Nat.le_of_ble_eq_true rfl) ?_
  exact (fun Γ _ _ X Y => w_Model_answer_b0 X Y  h)
theorem cv_Model_answer {Γ : Ctx} {cc : ByteArray} {nL d pc index : Nat} {own : String} {L : List (Nat × Value)} {rest : List Value} {I : MI} {J : MJ} {Q : Int32 → MI → MJ → Prop} {x1 : Int32} {x2 : Int64} (X : Cx Γ cc nL own d) (hd : decode cc pc = .ok (.invokevirtual index, 3)) (hlink : Cond.methodLink own index yX11_answer ∈ TT)  (h : f_Model_answer x1 x2 I J Q) (hrest : (rest.map fun v => v.category).sum ≤ 8) (hdd : 4 + 1 ≤ d) (kk : ∀ (r : Int32) (I' : MI) (J' : MJ), Q r I' J' → Wp Γ nL (pc + 3) L (.int r :: rest) I' J') : Wp Γ nL pc L (.long x2 :: .int x1 :: .ref (ad Γ 177) :: rest) I J :=
  wp_callV (As := [.int x1, .long x2]) (rest := rest) (T := TX11) (N := 62) X hd hlink mv_X11_answer sh_177 (by decide) rfl (c_Model_answer X.inj  h) rfl rfl hrest hdd (fun v I' J' hv => by obtain ⟨r, rfl, hq⟩ := hv; exact kk r I' J' hq)
theorem dX11_sumOf_0 : decode cX11_sumOf 0 = .ok (.lconst 0, 1) := by decide +kernel
theorem dX11_sumOf_1 : decode cX11_sumOf 1 = .ok (.lstore 5, 2) := by decide +kernel
theorem dX11_sumOf_3 : decode cX11_sumOf 3 = .ok (.iconst 0, 1) := by decide +kernel
theorem dX11_sumOf_4 : decode cX11_sumOf 4 = .ok (.istore 7, 2) := by decide +kernel
theorem dX11_sumOf_6 : decode cX11_sumOf 6 = .ok (.iload 7, 2) := by decide +kernel
theorem dX11_sumOf_8 : decode cX11_sumOf 8 = .ok (.iconst 4, 1) := by decide +kernel
theorem dX11_sumOf_9 : decode cX11_sumOf 9 = .ok (.if_icmp .ge 58, 3) := by decide +kernel
theorem dX11_sumOf_12 : decode cX11_sumOf 12 = .ok (.aload_n 0, 1) := by decide +kernel
theorem dX11_sumOf_13 : decode cX11_sumOf 13 = .ok (.iload_n 3, 1) := by decide +kernel
theorem dX11_sumOf_14 : decode cX11_sumOf 14 = .ok (.putfield 165, 3) := by decide +kernel
theorem dX11_sumOf_17 : decode cX11_sumOf 17 = .ok (.aload_n 0, 1) := by decide +kernel
theorem dX11_sumOf_18 : decode cX11_sumOf 18 = .ok (.iload 4, 2) := by decide +kernel
theorem dX11_sumOf_20 : decode cX11_sumOf 20 = .ok (.putfield 172, 3) := by decide +kernel
theorem dX11_sumOf_23 : decode cX11_sumOf 23 = .ok (.aload_n 0, 1) := by decide +kernel
theorem dX11_sumOf_24 : decode cX11_sumOf 24 = .ok (.iload_n 1, 1) := by decide +kernel
theorem dX11_sumOf_25 : decode cX11_sumOf 25 = .ok (.iload 7, 2) := by decide +kernel
theorem dX11_sumOf_27 : decode cX11_sumOf 27 = .ok (.invokevirtual 179, 3) := by decide +kernel
theorem dX11_sumOf_30 : decode cX11_sumOf 30 = .ok (.ifCond .eq 31, 3) := by decide +kernel
theorem dX11_sumOf_33 : decode cX11_sumOf 33 = .ok (.lload 5, 2) := by decide +kernel
theorem dX11_sumOf_35 : decode cX11_sumOf 35 = .ok (.aload_n 0, 1) := by decide +kernel
theorem dX11_sumOf_36 : decode cX11_sumOf 36 = .ok (.getfield 78, 3) := by decide +kernel
theorem dX11_sumOf_39 : decode cX11_sumOf 39 = .ok (.bipush 56, 2) := by decide +kernel
theorem dX11_sumOf_41 : decode cX11_sumOf 41 = .ok (.iload_n 2, 1) := by decide +kernel
theorem dX11_sumOf_42 : decode cX11_sumOf 42 = .ok (.iconst 1, 1) := by decide +kernel
theorem dX11_sumOf_43 : decode cX11_sumOf 43 = .ok (.isub, 1) := by decide +kernel
theorem dX11_sumOf_44 : decode cX11_sumOf 44 = .ok (.imul, 1) := by decide +kernel
theorem dX11_sumOf_45 : decode cX11_sumOf 45 = .ok (.iconst 4, 1) := by decide +kernel
theorem dX11_sumOf_46 : decode cX11_sumOf 46 = .ok (.aload_n 0, 1) := by decide +kernel
theorem dX11_sumOf_47 : decode cX11_sumOf 47 = .ok (.getfield 165, 3) := by decide +kernel
theorem dX11_sumOf_50 : decode cX11_sumOf 50 = .ok (.imul, 1) := by decide +kernel
theorem dX11_sumOf_51 : decode cX11_sumOf 51 = .ok (.iadd, 1) := by decide +kernel
theorem dX11_sumOf_52 : decode cX11_sumOf 52 = .ok (.aload_n 0, 1) := by decide +kernel
theorem dX11_sumOf_53 : decode cX11_sumOf 53 = .ok (.getfield 172, 3) := by decide +kernel
theorem dX11_sumOf_56 : decode cX11_sumOf 56 = .ok (.iadd, 1) := by decide +kernel
theorem dX11_sumOf_57 : decode cX11_sumOf 57 = .ok (.laload, 1) := by decide +kernel
theorem dX11_sumOf_58 : decode cX11_sumOf 58 = .ok (.ladd, 1) := by decide +kernel
theorem dX11_sumOf_59 : decode cX11_sumOf 59 = .ok (.lstore 5, 2) := by decide +kernel
theorem dX11_sumOf_61 : decode cX11_sumOf 61 = .ok (.iinc 7 1, 3) := by decide +kernel
theorem dX11_sumOf_64 : decode cX11_sumOf 64 = .ok (.goto (-58), 3) := by decide +kernel
theorem dX11_sumOf_67 : decode cX11_sumOf 67 = .ok (.lload 5, 2) := by decide +kernel
theorem dX11_sumOf_69 : decode cX11_sumOf 69 = .ok (.lreturn, 1) := by decide +kernel
def f_Model_sumOf_b61 (x5 : Int64) (x7 : Int32) (kh : Int64 → Int32 → MI → MJ → Prop) (I : MI) (J : MJ) : Prop :=
  ∀ t61 : Int32, t61 = x7 + 1 → kh x5 t61 I J
def f_Model_sumOf_L6 (x1 : Int32) (x2 : Int32) (x3 : Int32) (x4 : Int32) (k67 : Int64 → MI → MJ → Prop) : Nat → Int64 → Int32 → MI → MJ → Prop
  | 0, _, _, _, _ => False
  | nf6 + 1, x5, x7, I, J =>
  (if 4 ≤ x7 then k67 x5 I J else ∀ I14 : MI, I14 = sI I 177 (upd (I 177) 14 x3) → ∀ I20 : MI, I20 = sI I14 177 (upd (I14 177) 15 x4) → f_Model_go x1 x7 I20 J (fun r27 I27 J27 => (if r27 = 0 then f_Model_sumOf_b61 x5 x7 (f_Model_sumOf_L6 x1 x2 x3 x4 k67 nf6) I27 J27 else vp_in (((56 * (x2 - 1)) + (4 * (I27 177 14))) + (I27 177 15)) 1736 ∧ ∀ t59 : Int64, t59 = x5 + (J27 200 (((56 * (x2 - 1)) + (4 * (I27 177 14))) + (I27 177 15)).toNatClampNeg) → f_Model_sumOf_b61 t59 x7 (f_Model_sumOf_L6 x1 x2 x3 x4 k67 nf6) I27 J27)))
def f_Model_sumOf (x1 : Int32) (x2 : Int32) (x3 : Int32) (x4 : Int32) (I : MI) (J : MJ) (Q : Int64 → MI → MJ → Prop) : Prop :=
  ∃ n, f_Model_sumOf_L6 x1 x2 x3 x4 (fun (z67_x5 : Int64) (I : MI) (J : MJ) => Q z67_x5 I J) n 0 0 I J
set_option maxRecDepth 100000 in
set_option maxHeartbeats 4000000 in
theorem w_Model_sumOf_b61 {Γ : Ctx} {Q : Int64 → MI → MJ → Prop} {x1 : Int32} {x2 : Int32} {x3 : Int32} {x4 : Int32} {x5 : Int64} {x7 : Int32} {kh : Int64 → Int32 → MI → MJ → Prop} (X : Cx Γ cX11_sumOf 8 RX11 2) (Y : Rt Γ (Pl Q) (Option.some Jvm.ClassFile.FieldType.long))  (hkh : ∀ (x5 : Int64) (x7 : Int32) (I : MI) (J : MJ), kh x5 x7 I J → Wp Γ 8 6 [(0, .ref (ad Γ 177)), (1, .int x1), (2, .int x2), (3, .int x3), (4, .int x4), (5, .long x5), (7, .int x7)] [] I J) {I : MI} {J : MJ} (h : f_Model_sumOf_b61 x5 x7 kh I J) : Wp Γ 8 61 [(0, .ref (ad Γ 177)), (1, .int x1), (2, .int x2), (3, .int x3), (4, .int x4), (5, .long x5), (7, .int x7)] [] I J := by
  unfold f_Model_sumOf_b61 at h
  obtain ⟨t61, et61⟩ : ∃ y : Int32, y = x7 + 1 := ⟨_, rfl⟩
  have h := h t61 et61
  refine wp_iinc (L' := [(7, .int t61), (0, .ref (ad Γ 177)), (1, .int x1), (2, .int x2), (3, .int x3), (4, .int x4), (5, .long x5)]) X dX11_sumOf_61 6 rfl (ii_1 et61) (by decide) rfl ?_
  refine wp_goto (tgt := 6) X dX11_sumOf_64 (by decide) ?_
  refine wp_sub X [1, 2, 3, 4, 5, 6, 0] rfl ?_
  exact hkh _ _ _ _ h

set_option maxRecDepth 100000 in
set_option maxHeartbeats 4000000 in
theorem w_Model_sumOf_L6 {Γ : Ctx} {Q : Int64 → MI → MJ → Prop} {x1 : Int32} {x2 : Int32} {x3 : Int32} {x4 : Int32} {k67 : Int64 → MI → MJ → Prop} (X : Cx Γ cX11_sumOf 8 RX11 2) (Y : Rt Γ (Pl Q) (Option.some Jvm.ClassFile.FieldType.long))  (hk67 : ∀ (x5 : Int64) (I : MI) (J : MJ), k67 x5 I J → Wp Γ 8 67 [(5, .long x5)] [] I J) : ∀ (n : Nat) (x5 : Int64) (x7 : Int32) (I : MI) (J : MJ), f_Model_sumOf_L6 x1 x2 x3 x4 k67 n x5 x7 I J → Wp Γ 8 6 [(0, .ref (ad Γ 177)), (1, .int x1), (2, .int x2), (3, .int x3), (4, .int x4), (5, .long x5), (7, .int x7)] [] I J := by
  intro n
  induction n with
  | zero => intro x5 x7 I J h; exact absurd h (by simp [f_Model_sumOf_L6])
  | succ n ih =>
  intro x5 x7 I J h
  unfold f_Model_sumOf_L6 at h
  refine wp_iload X dX11_sumOf_6 6 rfl ?_
  refine wp_iconst X dX11_sumOf_8 ic_4 ?_
  refine wp_icmp_ge (tgt := 67) X dX11_sumOf_9 (by decide) (fun hc => ?_) (fun hc => ?_)
  · have h := ite_t h hc
    refine wp_sub X [5] rfl ?_
    exact hk67 _ _ _ h
  · have h := ite_f h hc
    refine wp_aload_n X dX11_sumOf_12 0 rfl ?_
    refine wp_iload_n X dX11_sumOf_13 3 rfl ?_
    refine pf_X11_165 X sh_177 dX11_sumOf_14 (fun I14 eI14 => ?_)
    have h := h I14 eI14
    refine wp_aload_n X dX11_sumOf_17 0 rfl ?_
    refine wp_iload X dX11_sumOf_18 4 rfl ?_
    refine pf_X11_172 X sh_177 dX11_sumOf_20 (fun I20 eI20 => ?_)
    have h := h I20 eI20
    refine wp_aload_n X dX11_sumOf_23 0 rfl ?_
    refine wp_iload_n X dX11_sumOf_24 1 rfl ?_
    refine wp_iload X dX11_sumOf_25 6 rfl ?_
    refine cv_Model_go X dX11_sumOf_27 ml_X11_179  h (Nat.le_of_ble_eq_true rfl) (by decide) (fun r27 I27 J27 h => ?_)
    refine wp_if_eq (tgt := 61) X dX11_sumOf_30 (by decide) (fun hc => ?_) (fun hc => ?_)
    · have h := ite_t h hc
      exact w_Model_sumOf_b61 X Y ih h
    · have h := ite_f h hc
      refine wp_lload X dX11_sumOf_33 5 rfl ?_
      refine wp_aload_n X dX11_sumOf_35 0 rfl ?_
      refine gf_X11_78 (o' := 200) X sh_177 rfl dX11_sumOf_36 ?_
      refine wp_bipush X dX11_sumOf_39 bi_56 ?_
      refine wp_iload_n X dX11_sumOf_41 2 rfl ?_
      refine wp_iconst X dX11_sumOf_42 ic_1 ?_
      refine wp_isub X dX11_sumOf_43 ?_
      refine wp_imul X dX11_sumOf_44 ?_
      refine wp_iconst X dX11_sumOf_45 ic_4 ?_
      refine wp_aload_n X dX11_sumOf_46 0 rfl ?_
      refine gf_X11_165 X sh_177 dX11_sumOf_47 ?_
      refine wp_imul X dX11_sumOf_50 ?_
      refine wp_iadd X dX11_sumOf_51 ?_
      refine wp_aload_n X dX11_sumOf_52 0 rfl ?_
      refine gf_X11_172 X sh_177 dX11_sumOf_53 ?_
      refine wp_iadd X dX11_sumOf_56 ?_
      obtain ⟨hb57, h⟩ := h
      refine wp_lald X sh_200 hb57 dX11_sumOf_57 ?_
      refine wp_ladd X dX11_sumOf_58 ?_
      refine wp_topl (fun t59 et59 => ?_)
      have h := h t59 et59
      refine wp_lstore (L' := [(5, .long t59), (0, .ref (ad Γ 177)), (1, .int x1), (2, .int x2), (3, .int x3), (4, .int x4), (7, .int x7)]) X dX11_sumOf_59 (by decide) rfl ?_
      refine wp_sub X [1, 2, 3, 4, 5, 0, 6] rfl ?_
      exact w_Model_sumOf_b61 X Y ih h

set_option maxRecDepth 100000 in
set_option maxHeartbeats 4000000 in
theorem w_Model_sumOf_b0 {Γ : Ctx} {Q : Int64 → MI → MJ → Prop} {x1 : Int32} {x2 : Int32} {x3 : Int32} {x4 : Int32}  (X : Cx Γ cX11_sumOf 8 RX11 2) (Y : Rt Γ (Pl Q) (Option.some Jvm.ClassFile.FieldType.long))   {I : MI} {J : MJ} (h : f_Model_sumOf x1 x2 x3 x4 I J Q) : Wp Γ 8 0 [(0, .ref (ad Γ 177)), (1, .int x1), (2, .int x2), (3, .int x3), (4, .int x4)] [] I J := by
  unfold f_Model_sumOf at h
  refine wp_lconst X dX11_sumOf_0 lc_0 ?_
  refine wp_lstore (L' := [(5, .long 0), (0, .ref (ad Γ 177)), (1, .int x1), (2, .int x2), (3, .int x3), (4, .int x4)]) X dX11_sumOf_1 (by decide) rfl ?_
  refine wp_iconst X dX11_sumOf_3 ic_0 ?_
  refine wp_istore (L' := [(7, .int 0), (5, .long 0), (0, .ref (ad Γ 177)), (1, .int x1), (2, .int x2), (3, .int x3), (4, .int x4)]) X dX11_sumOf_4 (by decide) rfl ?_
  obtain ⟨n, h⟩ := h
  refine wp_sub X [2, 3, 4, 5, 6, 1, 0] rfl ?_
  refine w_Model_sumOf_L6 X Y  ?_ n _ _ _ _ h
  · intro z67_x5 I J h
    refine wp_lload X dX11_sumOf_67 0 rfl ?_
    exact wp_lret X Y dX11_sumOf_69 ⟨_, rfl, h⟩

theorem c_Model_sumOf {l : Launch} {g : GE} (hg : Inj g) {I : MI} {J : MJ} {Q : Int64 → MI → MJ → Prop} {x1 : Int32} {x2 : Int32} {x3 : Int32} {x4 : Int32}  (h : f_Model_sumOf x1 x2 x3 x4 I J Q) : Cm l g yX11_sumOf cX11_sumOf 8 (Option.some Jvm.ClassFile.FieldType.long) 2 [.ref (g.1 177), .int x1, .int x2, .int x3, .int x4] I J (Pl Q) := by
  refine Cm.of (As := fun ad => [.ref (ad 177), .int x1, .int x2, .int x3, .int x4]) hg pn_X11 (Nat.le_of_ble_eq_true rfl) ?_
  exact (fun Γ _ _ X Y => w_Model_sumOf_b0 X Y  h)
theorem cv_Model_sumOf {Γ : Ctx} {cc : ByteArray} {nL d pc index : Nat} {own : String} {L : List (Nat × Value)} {rest : List Value} {I : MI} {J : MJ} {Q : Int64 → MI → MJ → Prop} {x1 : Int32} {x2 : Int32} {x3 : Int32} {x4 : Int32} (X : Cx Γ cc nL own d) (hd : decode cc pc = .ok (.invokevirtual index, 3)) (hlink : Cond.methodLink own index yX11_sumOf ∈ TT)  (h : f_Model_sumOf x1 x2 x3 x4 I J Q) (hrest : (rest.map fun v => v.category).sum ≤ 8) (hdd : 2 + 1 ≤ d) (kk : ∀ (r : Int64) (I' : MI) (J' : MJ), Q r I' J' → Wp Γ nL (pc + 3) L (.long r :: rest) I' J') : Wp Γ nL pc L (.int x4 :: .int x3 :: .int x2 :: .int x1 :: .ref (ad Γ 177) :: rest) I J :=
  wp_callV (As := [.int x1, .int x2, .int x3, .int x4]) (rest := rest) (T := TX11) (N := 62) X hd hlink mv_X11_sumOf sh_177 (by decide) rfl (c_Model_sumOf X.inj  h) rfl rfl hrest hdd (fun v I' J' hv => by obtain ⟨r, rfl, hq⟩ := hv; exact kk r I' J' hq)
theorem dX11_findTails_0 : decode cX11_findTails 0 = .ok (.iconst 0, 1) := by decide +kernel
theorem dX11_findTails_1 : decode cX11_findTails 1 = .ok (.istore_n 3, 1) := by decide +kernel
theorem dX11_findTails_2 : decode cX11_findTails 2 = .ok (.iload_n 3, 1) := by decide +kernel
theorem dX11_findTails_3 : decode cX11_findTails 3 = .ok (.bipush 30, 2) := by decide +kernel
theorem dX11_findTails_5 : decode cX11_findTails 5 = .ok (.if_icmp .gt 99, 3) := by decide +kernel
theorem dX11_findTails_8 : decode cX11_findTails 8 = .ok (.iconst 0, 1) := by decide +kernel
theorem dX11_findTails_9 : decode cX11_findTails 9 = .ok (.istore 4, 2) := by decide +kernel
theorem dX11_findTails_11 : decode cX11_findTails 11 = .ok (.iload 4, 2) := by decide +kernel
theorem dX11_findTails_13 : decode cX11_findTails 13 = .ok (.aload_n 0, 1) := by decide +kernel
theorem dX11_findTails_14 : decode cX11_findTails 14 = .ok (.getfield 33, 3) := by decide +kernel
theorem dX11_findTails_17 : decode cX11_findTails 17 = .ok (.iload_n 1, 1) := by decide +kernel
theorem dX11_findTails_18 : decode cX11_findTails 18 = .ok (.iaload, 1) := by decide +kernel
theorem dX11_findTails_19 : decode cX11_findTails 19 = .ok (.if_icmp .ge 79, 3) := by decide +kernel
theorem dX11_findTails_22 : decode cX11_findTails 22 = .ok (.iconst 0, 1) := by decide +kernel
theorem dX11_findTails_23 : decode cX11_findTails 23 = .ok (.istore 5, 2) := by decide +kernel
theorem dX11_findTails_25 : decode cX11_findTails 25 = .ok (.iload 5, 2) := by decide +kernel
theorem dX11_findTails_27 : decode cX11_findTails 27 = .ok (.iconst 4, 1) := by decide +kernel
theorem dX11_findTails_28 : decode cX11_findTails 28 = .ok (.if_icmp .ge 64, 3) := by decide +kernel
theorem dX11_findTails_31 : decode cX11_findTails 31 = .ok (.aload_n 0, 1) := by decide +kernel
theorem dX11_findTails_32 : decode cX11_findTails 32 = .ok (.getfield 78, 3) := by decide +kernel
theorem dX11_findTails_35 : decode cX11_findTails 35 = .ok (.bipush 56, 2) := by decide +kernel
theorem dX11_findTails_37 : decode cX11_findTails 37 = .ok (.iload_n 3, 1) := by decide +kernel
theorem dX11_findTails_38 : decode cX11_findTails 38 = .ok (.imul, 1) := by decide +kernel
theorem dX11_findTails_39 : decode cX11_findTails 39 = .ok (.iconst 4, 1) := by decide +kernel
theorem dX11_findTails_40 : decode cX11_findTails 40 = .ok (.iload 4, 2) := by decide +kernel
theorem dX11_findTails_42 : decode cX11_findTails 42 = .ok (.imul, 1) := by decide +kernel
theorem dX11_findTails_43 : decode cX11_findTails 43 = .ok (.iadd, 1) := by decide +kernel
theorem dX11_findTails_44 : decode cX11_findTails 44 = .ok (.iload 5, 2) := by decide +kernel
theorem dX11_findTails_46 : decode cX11_findTails 46 = .ok (.iadd, 1) := by decide +kernel
theorem dX11_findTails_47 : decode cX11_findTails 47 = .ok (.iload_n 3, 1) := by decide +kernel
theorem dX11_findTails_48 : decode cX11_findTails 48 = .ok (.ifCond .ne 27, 3) := by decide +kernel
theorem dX11_findTails_51 : decode cX11_findTails 51 = .ok (.aload_n 0, 1) := by decide +kernel
theorem dX11_findTails_52 : decode cX11_findTails 52 = .ok (.getfield 39, 3) := by decide +kernel
theorem dX11_findTails_55 : decode cX11_findTails 55 = .ok (.bipush 14, 2) := by decide +kernel
theorem dX11_findTails_57 : decode cX11_findTails 57 = .ok (.iload_n 1, 1) := by decide +kernel
theorem dX11_findTails_58 : decode cX11_findTails 58 = .ok (.imul, 1) := by decide +kernel
theorem dX11_findTails_59 : decode cX11_findTails 59 = .ok (.iload 4, 2) := by decide +kernel
theorem dX11_findTails_61 : decode cX11_findTails 61 = .ok (.iadd, 1) := by decide +kernel
theorem dX11_findTails_62 : decode cX11_findTails 62 = .ok (.iaload, 1) := by decide +kernel
theorem dX11_findTails_63 : decode cX11_findTails 63 = .ok (.iload_n 2, 1) := by decide +kernel
theorem dX11_findTails_64 : decode cX11_findTails 64 = .ok (.if_icmp .ne 7, 3) := by decide +kernel
theorem dX11_findTails_67 : decode cX11_findTails 67 = .ok (.lconst 1, 1) := by decide +kernel
theorem dX11_findTails_68 : decode cX11_findTails 68 = .ok (.goto 17, 3) := by decide +kernel
theorem dX11_findTails_71 : decode cX11_findTails 71 = .ok (.lconst 0, 1) := by decide +kernel
theorem dX11_findTails_72 : decode cX11_findTails 72 = .ok (.goto 13, 3) := by decide +kernel
theorem dX11_findTails_75 : decode cX11_findTails 75 = .ok (.aload_n 0, 1) := by decide +kernel
theorem dX11_findTails_76 : decode cX11_findTails 76 = .ok (.iload_n 1, 1) := by decide +kernel
theorem dX11_findTails_77 : decode cX11_findTails 77 = .ok (.iload_n 3, 1) := by decide +kernel
theorem dX11_findTails_78 : decode cX11_findTails 78 = .ok (.iload 4, 2) := by decide +kernel
theorem dX11_findTails_80 : decode cX11_findTails 80 = .ok (.iload 5, 2) := by decide +kernel
theorem dX11_findTails_82 : decode cX11_findTails 82 = .ok (.invokevirtual 257, 3) := by decide +kernel
theorem dX11_findTails_85 : decode cX11_findTails 85 = .ok (.lastore, 1) := by decide +kernel
theorem dX11_findTails_86 : decode cX11_findTails 86 = .ok (.iinc 5 1, 3) := by decide +kernel
theorem dX11_findTails_89 : decode cX11_findTails 89 = .ok (.goto (-64), 3) := by decide +kernel
theorem dX11_findTails_92 : decode cX11_findTails 92 = .ok (.iinc 4 1, 3) := by decide +kernel
theorem dX11_findTails_95 : decode cX11_findTails 95 = .ok (.goto (-84), 3) := by decide +kernel
theorem dX11_findTails_98 : decode cX11_findTails 98 = .ok (.iinc 3 1, 3) := by decide +kernel
theorem dX11_findTails_101 : decode cX11_findTails 101 = .ok (.goto (-99), 3) := by decide +kernel
theorem dX11_findTails_104 : decode cX11_findTails 104 = .ok (.return_, 1) := by decide +kernel
def f_Model_findTails_b85 (x5 : Int32) (s1 : Int32) (s2 : Int64) (kh : Int32 → MI → MJ → Prop) (I : MI) (J : MJ) : Prop :=
  vp_in s1 1736 ∧ ∀ J85 : MJ, J85 = sJ J 200 (vp_updL (J 200) s1.toNatClampNeg s2) → ∀ t86 : Int32, t86 = x5 + 1 → kh t86 I J85
def f_Model_findTails_L25 (x1 : Int32) (x2 : Int32) (x3 : Int32) (x4 : Int32) (k92 : MI → MJ → Prop) : Nat → Int32 → MI → MJ → Prop
  | 0, _, _, _ => False
  | nf25 + 1, x5, I, J =>
  (if 4 ≤ x5 then k92 I J else (if x3 = 0 then vp_in ((14 * x1) + x4) 280 ∧ (if (I 187 ((14 * x1) + x4).toNatClampNeg) = x2 then f_Model_findTails_b85 x5 (((56 * x3) + (4 * x4)) + x5) 1 (f_Model_findTails_L25 x1 x2 x3 x4 k92 nf25) I J else f_Model_findTails_b85 x5 (((56 * x3) + (4 * x4)) + x5) 0 (f_Model_findTails_L25 x1 x2 x3 x4 k92 nf25) I J) else f_Model_sumOf x1 x3 x4 x5 I J (fun r82 I82 J82 => f_Model_findTails_b85 x5 (((56 * x3) + (4 * x4)) + x5) r82 (f_Model_findTails_L25 x1 x2 x3 x4 k92 nf25) I82 J82)))
def f_Model_findTails_L11 (x1 : Int32) (x2 : Int32) (x3 : Int32) (k98 : MI → MJ → Prop) : Nat → Int32 → MI → MJ → Prop
  | 0, _, _, _ => False
  | nf11 + 1, x4, I, J =>
  vp_in x1 20 ∧ (if (I 185 x1.toNatClampNeg) ≤ x4 then k98 I J else ∃ n, f_Model_findTails_L25 x1 x2 x3 x4 (fun (I : MI) (J : MJ) => ∀ t92 : Int32, t92 = x4 + 1 → f_Model_findTails_L11 x1 x2 x3 k98 nf11 t92 I J) n 0 I J)
def f_Model_findTails_L2 (x1 : Int32) (x2 : Int32) (k104 : MI → MJ → Prop) : Nat → Int32 → MI → MJ → Prop
  | 0, _, _, _ => False
  | nf2 + 1, x3, I, J =>
  (if 30 < x3 then k104 I J else ∃ n, f_Model_findTails_L11 x1 x2 x3 (fun (I : MI) (J : MJ) => ∀ t98 : Int32, t98 = x3 + 1 → f_Model_findTails_L2 x1 x2 k104 nf2 t98 I J) n 0 I J)
def f_Model_findTails (x1 : Int32) (x2 : Int32) (I : MI) (J : MJ) (Q : MI → MJ → Prop) : Prop :=
  ∃ n, f_Model_findTails_L2 x1 x2 (fun (I : MI) (J : MJ) => Q I J) n 0 I J
set_option maxRecDepth 100000 in
set_option maxHeartbeats 4000000 in
theorem w_Model_findTails_b85 {Γ : Ctx} {Q : MI → MJ → Prop} {x1 : Int32} {x2 : Int32} {x3 : Int32} {x4 : Int32} {x5 : Int32} {s1 : Int32} {s2 : Int64} {kh : Int32 → MI → MJ → Prop} (X : Cx Γ cX11_findTails 6 RX11 3) (Y : Rt Γ (Pv Q) (Option.none : Option Jvm.ClassFile.FieldType))  (hkh : ∀ (x5 : Int32) (I : MI) (J : MJ), kh x5 I J → Wp Γ 6 25 [(0, .ref (ad Γ 177)), (1, .int x1), (2, .int x2), (3, .int x3), (4, .int x4), (5, .int x5)] [] I J) {I : MI} {J : MJ} (h : f_Model_findTails_b85 x5 s1 s2 kh I J) : Wp Γ 6 85 [(0, .ref (ad Γ 177)), (1, .int x1), (2, .int x2), (3, .int x3), (4, .int x4), (5, .int x5)] [.long s2, .int s1, .ref (ad Γ 200)] I J := by
  unfold f_Model_findTails_b85 at h
  obtain ⟨hb85, h⟩ := h
  refine wp_last X sh_200 hb85 dX11_findTails_85 ?_
  refine wp_memJ (fun J85 eJ85 => ?_)
  have h := h J85 eJ85
  obtain ⟨t86, et86⟩ : ∃ y : Int32, y = x5 + 1 := ⟨_, rfl⟩
  have h := h t86 et86
  refine wp_iinc (L' := [(5, .int t86), (0, .ref (ad Γ 177)), (1, .int x1), (2, .int x2), (3, .int x3), (4, .int x4)]) X dX11_findTails_86 5 rfl (ii_1 et86) (by decide) rfl ?_
  refine wp_goto (tgt := 25) X dX11_findTails_89 (by decide) ?_
  refine wp_sub X [1, 2, 3, 4, 5, 0] rfl ?_
  exact hkh _ _ _ h

set_option maxRecDepth 100000 in
set_option maxHeartbeats 4000000 in
theorem w_Model_findTails_L25 {Γ : Ctx} {Q : MI → MJ → Prop} {x1 : Int32} {x2 : Int32} {x3 : Int32} {x4 : Int32} {k92 : MI → MJ → Prop} (X : Cx Γ cX11_findTails 6 RX11 3) (Y : Rt Γ (Pv Q) (Option.none : Option Jvm.ClassFile.FieldType))  (hk92 : ∀ (I : MI) (J : MJ), k92 I J → Wp Γ 6 92 [(0, .ref (ad Γ 177)), (1, .int x1), (2, .int x2), (3, .int x3), (4, .int x4)] [] I J) : ∀ (n : Nat) (x5 : Int32) (I : MI) (J : MJ), f_Model_findTails_L25 x1 x2 x3 x4 k92 n x5 I J → Wp Γ 6 25 [(0, .ref (ad Γ 177)), (1, .int x1), (2, .int x2), (3, .int x3), (4, .int x4), (5, .int x5)] [] I J := by
  intro n
  induction n with
  | zero => intro x5 I J h; exact absurd h (by simp [f_Model_findTails_L25])
  | succ n ih =>
  intro x5 I J h
  unfold f_Model_findTails_L25 at h
  refine wp_iload X dX11_findTails_25 5 rfl ?_
  refine wp_iconst X dX11_findTails_27 ic_4 ?_
  refine wp_icmp_ge (tgt := 92) X dX11_findTails_28 (by decide) (fun hc => ?_) (fun hc => ?_)
  · have h := ite_t h hc
    refine wp_sub X [0, 1, 2, 3, 4] rfl ?_
    exact hk92 _ _ h
  · have h := ite_f h hc
    refine wp_aload_n X dX11_findTails_31 0 rfl ?_
    refine gf_X11_78 (o' := 200) X sh_177 rfl dX11_findTails_32 ?_
    refine wp_bipush X dX11_findTails_35 bi_56 ?_
    refine wp_iload_n X dX11_findTails_37 3 rfl ?_
    refine wp_imul X dX11_findTails_38 ?_
    refine wp_iconst X dX11_findTails_39 ic_4 ?_
    refine wp_iload X dX11_findTails_40 4 rfl ?_
    refine wp_imul X dX11_findTails_42 ?_
    refine wp_iadd X dX11_findTails_43 ?_
    refine wp_iload X dX11_findTails_44 5 rfl ?_
    refine wp_iadd X dX11_findTails_46 ?_
    refine wp_iload_n X dX11_findTails_47 3 rfl ?_
    refine wp_if_ne (tgt := 75) X dX11_findTails_48 (by decide) (fun hc => ?_) (fun hc => ?_)
    · have h := ite_f h hc
      refine wp_aload_n X dX11_findTails_75 0 rfl ?_
      refine wp_iload_n X dX11_findTails_76 1 rfl ?_
      refine wp_iload_n X dX11_findTails_77 3 rfl ?_
      refine wp_iload X dX11_findTails_78 4 rfl ?_
      refine wp_iload X dX11_findTails_80 5 rfl ?_
      refine cv_Model_sumOf X dX11_findTails_82 ml_X11_257  h (Nat.le_of_ble_eq_true rfl) (by decide) (fun r82 I82 J82 h => ?_)
      exact w_Model_findTails_b85 X Y ih h
    · have h := ite_t h hc
      refine wp_aload_n X dX11_findTails_51 0 rfl ?_
      refine gf_X11_39 (o' := 187) X sh_177 rfl dX11_findTails_52 ?_
      refine wp_bipush X dX11_findTails_55 bi_14 ?_
      refine wp_iload_n X dX11_findTails_57 1 rfl ?_
      refine wp_imul X dX11_findTails_58 ?_
      refine wp_iload X dX11_findTails_59 4 rfl ?_
      refine wp_iadd X dX11_findTails_61 ?_
      obtain ⟨hb62, h⟩ := h
      refine wp_iald X sh_187 hb62 dX11_findTails_62 ?_
      refine wp_iload_n X dX11_findTails_63 2 rfl ?_
      refine wp_icmp_ne (tgt := 71) X dX11_findTails_64 (by decide) (fun hc => ?_) (fun hc => ?_)
      · have h := ite_f h hc
        refine wp_lconst X dX11_findTails_71 lc_0 ?_
        refine wp_goto (tgt := 85) X dX11_findTails_72 (by decide) ?_
        exact w_Model_findTails_b85 X Y ih h
      · have h := ite_t h hc
        refine wp_lconst X dX11_findTails_67 lc_1 ?_
        refine wp_goto (tgt := 85) X dX11_findTails_68 (by decide) ?_
        exact w_Model_findTails_b85 X Y ih h

set_option maxRecDepth 100000 in
set_option maxHeartbeats 4000000 in
theorem w_Model_findTails_L11 {Γ : Ctx} {Q : MI → MJ → Prop} {x1 : Int32} {x2 : Int32} {x3 : Int32} {k98 : MI → MJ → Prop} (X : Cx Γ cX11_findTails 6 RX11 3) (Y : Rt Γ (Pv Q) (Option.none : Option Jvm.ClassFile.FieldType))  (hk98 : ∀ (I : MI) (J : MJ), k98 I J → Wp Γ 6 98 [(0, .ref (ad Γ 177)), (1, .int x1), (2, .int x2), (3, .int x3)] [] I J) : ∀ (n : Nat) (x4 : Int32) (I : MI) (J : MJ), f_Model_findTails_L11 x1 x2 x3 k98 n x4 I J → Wp Γ 6 11 [(0, .ref (ad Γ 177)), (1, .int x1), (2, .int x2), (3, .int x3), (4, .int x4)] [] I J := by
  intro n
  induction n with
  | zero => intro x4 I J h; exact absurd h (by simp [f_Model_findTails_L11])
  | succ n ih =>
  intro x4 I J h
  unfold f_Model_findTails_L11 at h
  refine wp_iload X dX11_findTails_11 4 rfl ?_
  refine wp_aload_n X dX11_findTails_13 0 rfl ?_
  refine gf_X11_33 (o' := 185) X sh_177 rfl dX11_findTails_14 ?_
  refine wp_iload_n X dX11_findTails_17 1 rfl ?_
  obtain ⟨hb18, h⟩ := h
  refine wp_iald X sh_185 hb18 dX11_findTails_18 ?_
  refine wp_icmp_ge (tgt := 98) X dX11_findTails_19 (by decide) (fun hc => ?_) (fun hc => ?_)
  · have h := ite_t h hc
    refine wp_sub X [0, 1, 2, 3] rfl ?_
    exact hk98 _ _ h
  · have h := ite_f h hc
    refine wp_iconst X dX11_findTails_22 ic_0 ?_
    refine wp_istore (L' := [(5, .int 0), (0, .ref (ad Γ 177)), (1, .int x1), (2, .int x2), (3, .int x3), (4, .int x4)]) X dX11_findTails_23 (by decide) rfl ?_
    obtain ⟨n, h⟩ := h
    refine wp_sub X [1, 2, 3, 4, 5, 0] rfl ?_
    refine w_Model_findTails_L25 X Y  ?_ n _ _ _ h
    · intro I J h
      obtain ⟨t92, et92⟩ : ∃ y : Int32, y = x4 + 1 := ⟨_, rfl⟩
      have h := h t92 et92
      refine wp_iinc (L' := [(4, .int t92), (0, .ref (ad Γ 177)), (1, .int x1), (2, .int x2), (3, .int x3)]) X dX11_findTails_92 4 rfl (ii_1 et92) (by decide) rfl ?_
      refine wp_goto (tgt := 11) X dX11_findTails_95 (by decide) ?_
      refine wp_sub X [1, 2, 3, 4, 0] rfl ?_
      exact ih _ _ _ h

set_option maxRecDepth 100000 in
set_option maxHeartbeats 4000000 in
theorem w_Model_findTails_L2 {Γ : Ctx} {Q : MI → MJ → Prop} {x1 : Int32} {x2 : Int32} {k104 : MI → MJ → Prop} (X : Cx Γ cX11_findTails 6 RX11 3) (Y : Rt Γ (Pv Q) (Option.none : Option Jvm.ClassFile.FieldType))  (hk104 : ∀ (I : MI) (J : MJ), k104 I J → Wp Γ 6 104 [] [] I J) : ∀ (n : Nat) (x3 : Int32) (I : MI) (J : MJ), f_Model_findTails_L2 x1 x2 k104 n x3 I J → Wp Γ 6 2 [(0, .ref (ad Γ 177)), (1, .int x1), (2, .int x2), (3, .int x3)] [] I J := by
  intro n
  induction n with
  | zero => intro x3 I J h; exact absurd h (by simp [f_Model_findTails_L2])
  | succ n ih =>
  intro x3 I J h
  unfold f_Model_findTails_L2 at h
  refine wp_iload_n X dX11_findTails_2 3 rfl ?_
  refine wp_bipush X dX11_findTails_3 bi_30 ?_
  refine wp_icmp_gt (tgt := 104) X dX11_findTails_5 (by decide) (fun hc => ?_) (fun hc => ?_)
  · have h := ite_t h hc
    refine wp_sub X [] rfl ?_
    exact hk104 _ _ h
  · have h := ite_f h hc
    refine wp_iconst X dX11_findTails_8 ic_0 ?_
    refine wp_istore (L' := [(4, .int 0), (0, .ref (ad Γ 177)), (1, .int x1), (2, .int x2), (3, .int x3)]) X dX11_findTails_9 (by decide) rfl ?_
    obtain ⟨n, h⟩ := h
    refine wp_sub X [1, 2, 3, 4, 0] rfl ?_
    refine w_Model_findTails_L11 X Y  ?_ n _ _ _ h
    · intro I J h
      obtain ⟨t98, et98⟩ : ∃ y : Int32, y = x3 + 1 := ⟨_, rfl⟩
      have h := h t98 et98
      refine wp_iinc (L' := [(3, .int t98), (0, .ref (ad Γ 177)), (1, .int x1), (2, .int x2)]) X dX11_findTails_98 3 rfl (ii_1 et98) (by decide) rfl ?_
      refine wp_goto (tgt := 2) X dX11_findTails_101 (by decide) ?_
      refine wp_sub X [1, 2, 3, 0] rfl ?_
      exact ih _ _ _ h

set_option maxRecDepth 100000 in
set_option maxHeartbeats 4000000 in
theorem w_Model_findTails_b0 {Γ : Ctx} {Q : MI → MJ → Prop} {x1 : Int32} {x2 : Int32}  (X : Cx Γ cX11_findTails 6 RX11 3) (Y : Rt Γ (Pv Q) (Option.none : Option Jvm.ClassFile.FieldType))   {I : MI} {J : MJ} (h : f_Model_findTails x1 x2 I J Q) : Wp Γ 6 0 [(0, .ref (ad Γ 177)), (1, .int x1), (2, .int x2)] [] I J := by
  unfold f_Model_findTails at h
  refine wp_iconst X dX11_findTails_0 ic_0 ?_
  refine wp_istore_n (L' := [(3, .int 0), (0, .ref (ad Γ 177)), (1, .int x1), (2, .int x2)]) X dX11_findTails_1 rfl (by decide) rfl ?_
  obtain ⟨n, h⟩ := h
  refine wp_sub X [1, 2, 3, 0] rfl ?_
  refine w_Model_findTails_L2 X Y  ?_ n _ _ _ h
  · intro I J h
    exact wp_vret X Y dX11_findTails_104 ⟨rfl, h⟩

theorem c_Model_findTails {l : Launch} {g : GE} (hg : Inj g) {I : MI} {J : MJ} {Q : MI → MJ → Prop} {x1 : Int32} {x2 : Int32}  (h : f_Model_findTails x1 x2 I J Q) : Cm l g yX11_findTails cX11_findTails 6 (Option.none : Option Jvm.ClassFile.FieldType) 3 [.ref (g.1 177), .int x1, .int x2] I J (Pv Q) := by
  refine Cm.of (As := fun ad => [.ref (ad 177), .int x1, .int x2]) hg pn_X11 (Nat.le_of_ble_eq_true rfl) ?_
  exact (fun Γ _ _ X Y => w_Model_findTails_b0 X Y  h)
theorem cv_Model_findTails {Γ : Ctx} {cc : ByteArray} {nL d pc index : Nat} {own : String} {L : List (Nat × Value)} {rest : List Value} {I : MI} {J : MJ} {Q : MI → MJ → Prop} {x1 : Int32} {x2 : Int32} (X : Cx Γ cc nL own d) (hd : decode cc pc = .ok (.invokevirtual index, 3)) (hlink : Cond.methodLink own index yX11_findTails ∈ TT)  (h : f_Model_findTails x1 x2 I J Q) (hrest : (rest.map fun v => v.category).sum ≤ 8) (hdd : 3 + 1 ≤ d) (kk : ∀ (I' : MI) (J' : MJ), Q I' J' → Wp Γ nL (pc + 3) L rest I' J') : Wp Γ nL pc L (.int x2 :: .int x1 :: .ref (ad Γ 177) :: rest) I J :=
  wp_callV (As := [.int x1, .int x2]) (rest := rest) (T := TX11) (N := 62) X hd hlink mv_X11_findTails sh_177 (by decide) rfl (c_Model_findTails X.inj  h) rfl rfl hrest hdd (fun v I' J' hv => by obtain ⟨rfl, hq⟩ := hv; exact kk I' J' hq)
theorem dX11_count_0 : decode cX11_count 0 = .ok (.aload_n 0, 1) := by decide +kernel
theorem dX11_count_1 : decode cX11_count 1 = .ok (.iload_n 1, 1) := by decide +kernel
theorem dX11_count_2 : decode cX11_count 2 = .ok (.invokevirtual 242, 3) := by decide +kernel
theorem dX11_count_5 : decode cX11_count 5 = .ok (.ifCond .eq 23, 3) := by decide +kernel
theorem dX11_count_8 : decode cX11_count 8 = .ok (.iload_n 2, 1) := by decide +kernel
theorem dX11_count_9 : decode cX11_count 9 = .ok (.ifCond .lt 19, 3) := by decide +kernel
theorem dX11_count_12 : decode cX11_count 12 = .ok (.iload_n 2, 1) := by decide +kernel
theorem dX11_count_13 : decode cX11_count 13 = .ok (.bipush 7, 2) := by decide +kernel
theorem dX11_count_15 : decode cX11_count 15 = .ok (.if_icmp .gt 13, 3) := by decide +kernel
theorem dX11_count_18 : decode cX11_count 18 = .ok (.iload_n 3, 1) := by decide +kernel
theorem dX11_count_19 : decode cX11_count 19 = .ok (.ifCond .lt 9, 3) := by decide +kernel
theorem dX11_count_22 : decode cX11_count 22 = .ok (.iload_n 3, 1) := by decide +kernel
theorem dX11_count_23 : decode cX11_count 23 = .ok (.bipush 30, 2) := by decide +kernel
theorem dX11_count_25 : decode cX11_count 25 = .ok (.if_icmp .le 7, 3) := by decide +kernel
theorem dX11_count_28 : decode cX11_count 28 = .ok (.ldc2_w 261, 3) := by decide +kernel
theorem dX11_count_31 : decode cX11_count 31 = .ok (.lreturn, 1) := by decide +kernel
theorem dX11_count_32 : decode cX11_count 32 = .ok (.aload_n 0, 1) := by decide +kernel
theorem dX11_count_33 : decode cX11_count 33 = .ok (.iload_n 1, 1) := by decide +kernel
theorem dX11_count_34 : decode cX11_count 34 = .ok (.iload_n 2, 1) := by decide +kernel
theorem dX11_count_35 : decode cX11_count 35 = .ok (.invokevirtual 263, 3) := by decide +kernel
theorem dX11_count_38 : decode cX11_count 38 = .ok (.aload_n 0, 1) := by decide +kernel
theorem dX11_count_39 : decode cX11_count 39 = .ok (.getfield 78, 3) := by decide +kernel
theorem dX11_count_42 : decode cX11_count 42 = .ok (.bipush 56, 2) := by decide +kernel
theorem dX11_count_44 : decode cX11_count 44 = .ok (.iload_n 3, 1) := by decide +kernel
theorem dX11_count_45 : decode cX11_count 45 = .ok (.imul, 1) := by decide +kernel
theorem dX11_count_46 : decode cX11_count 46 = .ok (.laload, 1) := by decide +kernel
theorem dX11_count_47 : decode cX11_count 47 = .ok (.lreturn, 1) := by decide +kernel
def f_Model_count (x1 : Int32) (x2 : Int32) (x3 : Int32) (I : MI) (J : MJ) (Q : Int64 → MI → MJ → Prop) : Prop :=
  f_Model_isMachine x1 I J (fun r2 I2 J2 => (if r2 = 0 then Q (-1) I2 J2 else (if x2 < 0 then Q (-1) I2 J2 else (if 7 < x2 then Q (-1) I2 J2 else (if x3 < 0 then Q (-1) I2 J2 else (if x3 ≤ 30 then f_Model_findTails x1 x2 I2 J2 (fun I35 J35 => vp_in (56 * x3) 1736 ∧ Q (J35 200 (56 * x3).toNatClampNeg) I35 J35) else Q (-1) I2 J2))))))
set_option maxRecDepth 100000 in
set_option maxHeartbeats 4000000 in
theorem w_Model_count_b0 {Γ : Ctx} {Q : Int64 → MI → MJ → Prop} {x1 : Int32} {x2 : Int32} {x3 : Int32}  (X : Cx Γ cX11_count 4 RX11 4) (Y : Rt Γ (Pl Q) (Option.some Jvm.ClassFile.FieldType.long))   {I : MI} {J : MJ} (h : f_Model_count x1 x2 x3 I J Q) : Wp Γ 4 0 [(0, .ref (ad Γ 177)), (1, .int x1), (2, .int x2), (3, .int x3)] [] I J := by
  unfold f_Model_count at h
  refine wp_aload_n X dX11_count_0 0 rfl ?_
  refine wp_iload_n X dX11_count_1 1 rfl ?_
  refine cv_Model_isMachine X dX11_count_2 ml_X11_242  h (Nat.le_of_ble_eq_true rfl) (by decide) (fun r2 I2 J2 h => ?_)
  refine wp_if_eq (tgt := 28) X dX11_count_5 (by decide) (fun hc => ?_) (fun hc => ?_)
  · have h := ite_t h hc
    refine wp_ldc2 X kl_X11_261 dX11_count_28 ?_
    exact wp_lret X Y dX11_count_31 ⟨_, rfl, h⟩
  · have h := ite_f h hc
    refine wp_iload_n X dX11_count_8 2 rfl ?_
    refine wp_if_lt (tgt := 28) X dX11_count_9 (by decide) (fun hc => ?_) (fun hc => ?_)
    · have h := ite_t h hc
      refine wp_ldc2 X kl_X11_261 dX11_count_28 ?_
      exact wp_lret X Y dX11_count_31 ⟨_, rfl, h⟩
    · have h := ite_f h hc
      refine wp_iload_n X dX11_count_12 2 rfl ?_
      refine wp_bipush X dX11_count_13 bi_7 ?_
      refine wp_icmp_gt (tgt := 28) X dX11_count_15 (by decide) (fun hc => ?_) (fun hc => ?_)
      · have h := ite_t h hc
        refine wp_ldc2 X kl_X11_261 dX11_count_28 ?_
        exact wp_lret X Y dX11_count_31 ⟨_, rfl, h⟩
      · have h := ite_f h hc
        refine wp_iload_n X dX11_count_18 3 rfl ?_
        refine wp_if_lt (tgt := 28) X dX11_count_19 (by decide) (fun hc => ?_) (fun hc => ?_)
        · have h := ite_t h hc
          refine wp_ldc2 X kl_X11_261 dX11_count_28 ?_
          exact wp_lret X Y dX11_count_31 ⟨_, rfl, h⟩
        · have h := ite_f h hc
          refine wp_iload_n X dX11_count_22 3 rfl ?_
          refine wp_bipush X dX11_count_23 bi_30 ?_
          refine wp_icmp_le (tgt := 32) X dX11_count_25 (by decide) (fun hc => ?_) (fun hc => ?_)
          · have h := ite_t h hc
            refine wp_aload_n X dX11_count_32 0 rfl ?_
            refine wp_iload_n X dX11_count_33 1 rfl ?_
            refine wp_iload_n X dX11_count_34 2 rfl ?_
            refine cv_Model_findTails X dX11_count_35 ml_X11_263  h (Nat.le_of_ble_eq_true rfl) (by decide) (fun I35 J35 h => ?_)
            refine wp_aload_n X dX11_count_38 0 rfl ?_
            refine gf_X11_78 (o' := 200) X sh_177 rfl dX11_count_39 ?_
            refine wp_bipush X dX11_count_42 bi_56 ?_
            refine wp_iload_n X dX11_count_44 3 rfl ?_
            refine wp_imul X dX11_count_45 ?_
            obtain ⟨hb46, h⟩ := h
            refine wp_lald X sh_200 hb46 dX11_count_46 ?_
            exact wp_lret X Y dX11_count_47 ⟨_, rfl, h⟩
          · have h := ite_f h hc
            refine wp_ldc2 X kl_X11_261 dX11_count_28 ?_
            exact wp_lret X Y dX11_count_31 ⟨_, rfl, h⟩

theorem c_Model_count {l : Launch} {g : GE} (hg : Inj g) {I : MI} {J : MJ} {Q : Int64 → MI → MJ → Prop} {x1 : Int32} {x2 : Int32} {x3 : Int32}  (h : f_Model_count x1 x2 x3 I J Q) : Cm l g yX11_count cX11_count 4 (Option.some Jvm.ClassFile.FieldType.long) 4 [.ref (g.1 177), .int x1, .int x2, .int x3] I J (Pl Q) := by
  refine Cm.of (As := fun ad => [.ref (ad 177), .int x1, .int x2, .int x3]) hg pn_X11 (Nat.le_of_ble_eq_true rfl) ?_
  exact (fun Γ _ _ X Y => w_Model_count_b0 X Y  h)
theorem cv_Model_count {Γ : Ctx} {cc : ByteArray} {nL d pc index : Nat} {own : String} {L : List (Nat × Value)} {rest : List Value} {I : MI} {J : MJ} {Q : Int64 → MI → MJ → Prop} {x1 : Int32} {x2 : Int32} {x3 : Int32} (X : Cx Γ cc nL own d) (hd : decode cc pc = .ok (.invokevirtual index, 3)) (hlink : Cond.methodLink own index yX11_count ∈ TT)  (h : f_Model_count x1 x2 x3 I J Q) (hrest : (rest.map fun v => v.category).sum ≤ 8) (hdd : 4 + 1 ≤ d) (kk : ∀ (r : Int64) (I' : MI) (J' : MJ), Q r I' J' → Wp Γ nL (pc + 3) L (.long r :: rest) I' J') : Wp Γ nL pc L (.int x3 :: .int x2 :: .int x1 :: .ref (ad Γ 177) :: rest) I J :=
  wp_callV (As := [.int x1, .int x2, .int x3]) (rest := rest) (T := TX11) (N := 62) X hd hlink mv_X11_count sh_177 (by decide) rfl (c_Model_count X.inj  h) rfl rfl hrest hdd (fun v I' J' hv => by obtain ⟨r, rfl, hq⟩ := hv; exact kk r I' J' hq)
theorem dX11_found_0 : decode cX11_found 0 = .ok (.lconst 1, 1) := by decide +kernel
theorem dX11_found_1 : decode cX11_found 1 = .ok (.lstore 5, 2) := by decide +kernel
theorem dX11_found_3 : decode cX11_found 3 = .ok (.lload_n 3, 1) := by decide +kernel
theorem dX11_found_4 : decode cX11_found 4 = .ok (.lstore 7, 2) := by decide +kernel
theorem dX11_found_6 : decode cX11_found 6 = .ok (.iconst 0, 1) := by decide +kernel
theorem dX11_found_7 : decode cX11_found 7 = .ok (.istore 9, 2) := by decide +kernel
theorem dX11_found_9 : decode cX11_found 9 = .ok (.iconst 0, 1) := by decide +kernel
theorem dX11_found_10 : decode cX11_found 10 = .ok (.istore 10, 2) := by decide +kernel
theorem dX11_found_12 : decode cX11_found 12 = .ok (.iload_n 2, 1) := by decide +kernel
theorem dX11_found_13 : decode cX11_found 13 = .ok (.iconst 1, 1) := by decide +kernel
theorem dX11_found_14 : decode cX11_found 14 = .ok (.isub, 1) := by decide +kernel
theorem dX11_found_15 : decode cX11_found 15 = .ok (.istore 11, 2) := by decide +kernel
theorem dX11_found_17 : decode cX11_found 17 = .ok (.iload 11, 2) := by decide +kernel
theorem dX11_found_19 : decode cX11_found 19 = .ok (.ifCond .lt 141, 3) := by decide +kernel
theorem dX11_found_22 : decode cX11_found 22 = .ok (.iconst (-1), 1) := by decide +kernel
theorem dX11_found_23 : decode cX11_found 23 = .ok (.istore 12, 2) := by decide +kernel
theorem dX11_found_25 : decode cX11_found 25 = .ok (.iconst 0, 1) := by decide +kernel
theorem dX11_found_26 : decode cX11_found 26 = .ok (.istore 13, 2) := by decide +kernel
theorem dX11_found_28 : decode cX11_found 28 = .ok (.iload 13, 2) := by decide +kernel
theorem dX11_found_30 : decode cX11_found 30 = .ok (.iconst 4, 1) := by decide +kernel
theorem dX11_found_31 : decode cX11_found 31 = .ok (.if_icmp .ge 99, 3) := by decide +kernel
theorem dX11_found_34 : decode cX11_found 34 = .ok (.iload 12, 2) := by decide +kernel
theorem dX11_found_36 : decode cX11_found 36 = .ok (.ifCond .ge 94, 3) := by decide +kernel
theorem dX11_found_39 : decode cX11_found 39 = .ok (.aload_n 0, 1) := by decide +kernel
theorem dX11_found_40 : decode cX11_found 40 = .ok (.iload 9, 2) := by decide +kernel
theorem dX11_found_42 : decode cX11_found 42 = .ok (.putfield 165, 3) := by decide +kernel
theorem dX11_found_45 : decode cX11_found 45 = .ok (.aload_n 0, 1) := by decide +kernel
theorem dX11_found_46 : decode cX11_found 46 = .ok (.iload 10, 2) := by decide +kernel
theorem dX11_found_48 : decode cX11_found 48 = .ok (.putfield 172, 3) := by decide +kernel
theorem dX11_found_51 : decode cX11_found 51 = .ok (.aload_n 0, 1) := by decide +kernel
theorem dX11_found_52 : decode cX11_found 52 = .ok (.iload_n 1, 1) := by decide +kernel
theorem dX11_found_53 : decode cX11_found 53 = .ok (.iload 13, 2) := by decide +kernel
theorem dX11_found_55 : decode cX11_found 55 = .ok (.invokevirtual 179, 3) := by decide +kernel
theorem dX11_found_58 : decode cX11_found 58 = .ok (.ifCond .eq 28, 3) := by decide +kernel
theorem dX11_found_61 : decode cX11_found 61 = .ok (.aload_n 0, 1) := by decide +kernel
theorem dX11_found_62 : decode cX11_found 62 = .ok (.getfield 78, 3) := by decide +kernel
theorem dX11_found_65 : decode cX11_found 65 = .ok (.bipush 56, 2) := by decide +kernel
theorem dX11_found_67 : decode cX11_found 67 = .ok (.iload 11, 2) := by decide +kernel
theorem dX11_found_69 : decode cX11_found 69 = .ok (.imul, 1) := by decide +kernel
theorem dX11_found_70 : decode cX11_found 70 = .ok (.iconst 4, 1) := by decide +kernel
theorem dX11_found_71 : decode cX11_found 71 = .ok (.aload_n 0, 1) := by decide +kernel
theorem dX11_found_72 : decode cX11_found 72 = .ok (.getfield 165, 3) := by decide +kernel
theorem dX11_found_75 : decode cX11_found 75 = .ok (.imul, 1) := by decide +kernel
theorem dX11_found_76 : decode cX11_found 76 = .ok (.iadd, 1) := by decide +kernel
theorem dX11_found_77 : decode cX11_found 77 = .ok (.aload_n 0, 1) := by decide +kernel
theorem dX11_found_78 : decode cX11_found 78 = .ok (.getfield 172, 3) := by decide +kernel
theorem dX11_found_81 : decode cX11_found 81 = .ok (.iadd, 1) := by decide +kernel
theorem dX11_found_82 : decode cX11_found 82 = .ok (.laload, 1) := by decide +kernel
theorem dX11_found_83 : decode cX11_found 83 = .ok (.goto 4, 3) := by decide +kernel
theorem dX11_found_86 : decode cX11_found 86 = .ok (.lconst 0, 1) := by decide +kernel
theorem dX11_found_87 : decode cX11_found 87 = .ok (.lstore 14, 2) := by decide +kernel
theorem dX11_found_89 : decode cX11_found 89 = .ok (.lload 7, 2) := by decide +kernel
theorem dX11_found_91 : decode cX11_found 91 = .ok (.lload 14, 2) := by decide +kernel
theorem dX11_found_93 : decode cX11_found 93 = .ok (.lcmp, 1) := by decide +kernel
theorem dX11_found_94 : decode cX11_found 94 = .ok (.ifCond .ge 8, 3) := by decide +kernel
theorem dX11_found_97 : decode cX11_found 97 = .ok (.iload 13, 2) := by decide +kernel
theorem dX11_found_99 : decode cX11_found 99 = .ok (.goto 4, 3) := by decide +kernel
theorem dX11_found_102 : decode cX11_found 102 = .ok (.iconst (-1), 1) := by decide +kernel
theorem dX11_found_103 : decode cX11_found 103 = .ok (.istore 12, 2) := by decide +kernel
theorem dX11_found_105 : decode cX11_found 105 = .ok (.lload 7, 2) := by decide +kernel
theorem dX11_found_107 : decode cX11_found 107 = .ok (.lload 7, 2) := by decide +kernel
theorem dX11_found_109 : decode cX11_found 109 = .ok (.lload 14, 2) := by decide +kernel
theorem dX11_found_111 : decode cX11_found 111 = .ok (.lcmp, 1) := by decide +kernel
theorem dX11_found_112 : decode cX11_found 112 = .ok (.ifCond .ge 7, 3) := by decide +kernel
theorem dX11_found_115 : decode cX11_found 115 = .ok (.lconst 0, 1) := by decide +kernel
theorem dX11_found_116 : decode cX11_found 116 = .ok (.goto 5, 3) := by decide +kernel
theorem dX11_found_119 : decode cX11_found 119 = .ok (.lload 14, 2) := by decide +kernel
theorem dX11_found_121 : decode cX11_found 121 = .ok (.lsub, 1) := by decide +kernel
theorem dX11_found_122 : decode cX11_found 122 = .ok (.lstore 7, 2) := by decide +kernel
theorem dX11_found_124 : decode cX11_found 124 = .ok (.iinc 13 1, 3) := by decide +kernel
theorem dX11_found_127 : decode cX11_found 127 = .ok (.goto (-99), 3) := by decide +kernel
theorem dX11_found_130 : decode cX11_found 130 = .ok (.aload_n 0, 1) := by decide +kernel
theorem dX11_found_131 : decode cX11_found 131 = .ok (.getfield 165, 3) := by decide +kernel
theorem dX11_found_134 : decode cX11_found 134 = .ok (.istore 9, 2) := by decide +kernel
theorem dX11_found_136 : decode cX11_found 136 = .ok (.aload_n 0, 1) := by decide +kernel
theorem dX11_found_137 : decode cX11_found 137 = .ok (.getfield 172, 3) := by decide +kernel
theorem dX11_found_140 : decode cX11_found 140 = .ok (.istore 10, 2) := by decide +kernel
theorem dX11_found_142 : decode cX11_found 142 = .ok (.ldc2_w 197, 3) := by decide +kernel
theorem dX11_found_145 : decode cX11_found 145 = .ok (.lload 5, 2) := by decide +kernel
theorem dX11_found_147 : decode cX11_found 147 = .ok (.lmul, 1) := by decide +kernel
theorem dX11_found_148 : decode cX11_found 148 = .ok (.iload 12, 2) := by decide +kernel
theorem dX11_found_150 : decode cX11_found 150 = .ok (.i2l, 1) := by decide +kernel
theorem dX11_found_151 : decode cX11_found 151 = .ok (.ladd, 1) := by decide +kernel
theorem dX11_found_152 : decode cX11_found 152 = .ok (.lstore 5, 2) := by decide +kernel
theorem dX11_found_154 : decode cX11_found 154 = .ok (.iinc 11 (-1), 3) := by decide +kernel
theorem dX11_found_157 : decode cX11_found 157 = .ok (.goto (-140), 3) := by decide +kernel
theorem dX11_found_160 : decode cX11_found 160 = .ok (.lload 5, 2) := by decide +kernel
theorem dX11_found_162 : decode cX11_found 162 = .ok (.lreturn, 1) := by decide +kernel
def f_Model_found_b130 (x5 : Int64) (x7 : Int64) (x11 : Int32) (x12 : Int32) (kh : Int64 → Int64 → Int32 → Int32 → Int32 → MI → MJ → Prop) (I : MI) (J : MJ) : Prop :=
  ∀ t134 : Int32, t134 = I 177 14 → ∀ t140 : Int32, t140 = I 177 15 → ∀ t152 : Int64, t152 = (4 * x5) + x12.toInt64 → ∀ t154 : Int32, t154 = x11 + (-1) → kh t152 x7 t134 t140 t154 I J
def f_Model_found_b121 (x12 : Int32) (x13 : Int32) (s0 : Int64) (s1 : Int64) (kh : Int64 → Int32 → Int32 → MI → MJ → Prop) (I : MI) (J : MJ) : Prop :=
  ∀ t122 : Int64, t122 = s0 - s1 → ∀ t124 : Int32, t124 = x13 + 1 → kh t122 x12 t124 I J
def f_Model_found_b103 (x7 : Int64) (x13 : Int32) (x14 : Int64) (s0 : Int32) (kh : Int64 → Int32 → Int32 → MI → MJ → Prop) (I : MI) (J : MJ) : Prop :=
  (if x14 ≤ x7 then f_Model_found_b121 s0 x13 x7 x14 kh I J else f_Model_found_b121 s0 x13 x7 0 kh I J)
def f_Model_found_b87 (x7 : Int64) (x13 : Int32) (s0 : Int64) (kh : Int64 → Int32 → Int32 → MI → MJ → Prop) (I : MI) (J : MJ) : Prop :=
  (if s0 ≤ x7 then f_Model_found_b103 x7 x13 s0 (-1) kh I J else f_Model_found_b103 x7 x13 s0 x13 kh I J)
def f_Model_found_L28 (x1 : Int32) (x9 : Int32) (x10 : Int32) (x11 : Int32) (k130 : Int64 → Int32 → MI → MJ → Prop) : Nat → Int64 → Int32 → Int32 → MI → MJ → Prop
  | 0, _, _, _, _, _ => False
  | nf28 + 1, x7, x12, x13, I, J =>
  (if 4 ≤ x13 then k130 x7 x12 I J else (if 0 ≤ x12 then k130 x7 x12 I J else ∀ I42 : MI, I42 = sI I 177 (upd (I 177) 14 x9) → ∀ I48 : MI, I48 = sI I42 177 (upd (I42 177) 15 x10) → f_Model_go x1 x13 I48 J (fun r55 I55 J55 => (if r55 = 0 then f_Model_found_b87 x7 x13 0 (f_Model_found_L28 x1 x9 x10 x11 k130 nf28) I55 J55 else vp_in (((56 * x11) + (4 * (I55 177 14))) + (I55 177 15)) 1736 ∧ f_Model_found_b87 x7 x13 (J55 200 (((56 * x11) + (4 * (I55 177 14))) + (I55 177 15)).toNatClampNeg) (f_Model_found_L28 x1 x9 x10 x11 k130 nf28) I55 J55))))
def f_Model_found_L17 (x1 : Int32) (k160 : Int64 → MI → MJ → Prop) : Nat → Int64 → Int64 → Int32 → Int32 → Int32 → MI → MJ → Prop
  | 0, _, _, _, _, _, _, _ => False
  | nf17 + 1, x5, x7, x9, x10, x11, I, J =>
  (if x11 < 0 then k160 x5 I J else ∃ n, f_Model_found_L28 x1 x9 x10 x11 (fun (z130_x7 : Int64) (z130_x12 : Int32) (I : MI) (J : MJ) => f_Model_found_b130 x5 z130_x7 x11 z130_x12 (f_Model_found_L17 x1 k160 nf17) I J) n x7 (-1) 0 I J)
def f_Model_found (x1 : Int32) (x2 : Int32) (x3 : Int64) (I : MI) (J : MJ) (Q : Int64 → MI → MJ → Prop) : Prop :=
  ∀ t15 : Int32, t15 = x2 - 1 → ∃ n, f_Model_found_L17 x1 (fun (z160_x5 : Int64) (I : MI) (J : MJ) => Q z160_x5 I J) n 1 x3 0 0 t15 I J
set_option maxRecDepth 100000 in
set_option maxHeartbeats 4000000 in
theorem w_Model_found_b130 {Γ : Ctx} {Q : Int64 → MI → MJ → Prop} {x1 : Int32} {x5 : Int64} {x7 : Int64} {x11 : Int32} {x12 : Int32} {kh : Int64 → Int64 → Int32 → Int32 → Int32 → MI → MJ → Prop} (X : Cx Γ cX11_found 16 RX11 2) (Y : Rt Γ (Pl Q) (Option.some Jvm.ClassFile.FieldType.long))  (hkh : ∀ (x5 : Int64) (x7 : Int64) (x9 : Int32) (x10 : Int32) (x11 : Int32) (I : MI) (J : MJ), kh x5 x7 x9 x10 x11 I J → Wp Γ 16 17 [(0, .ref (ad Γ 177)), (1, .int x1), (5, .long x5), (7, .long x7), (9, .int x9), (10, .int x10), (11, .int x11)] [] I J) {I : MI} {J : MJ} (h : f_Model_found_b130 x5 x7 x11 x12 kh I J) : Wp Γ 16 130 [(0, .ref (ad Γ 177)), (1, .int x1), (5, .long x5), (7, .long x7), (11, .int x11), (12, .int x12)] [] I J := by
  unfold f_Model_found_b130 at h
  refine wp_aload_n X dX11_found_130 0 rfl ?_
  refine gf_X11_165 X sh_177 dX11_found_131 ?_
  refine wp_topi (fun t134 et134 => ?_)
  have h := h t134 et134
  refine wp_istore (L' := [(9, .int t134), (0, .ref (ad Γ 177)), (1, .int x1), (5, .long x5), (7, .long x7), (11, .int x11), (12, .int x12)]) X dX11_found_134 (by decide) rfl ?_
  refine wp_aload_n X dX11_found_136 1 rfl ?_
  refine gf_X11_172 X sh_177 dX11_found_137 ?_
  refine wp_topi (fun t140 et140 => ?_)
  have h := h t140 et140
  refine wp_istore (L' := [(10, .int t140), (9, .int t134), (0, .ref (ad Γ 177)), (1, .int x1), (5, .long x5), (7, .long x7), (11, .int x11), (12, .int x12)]) X dX11_found_140 (by decide) rfl ?_
  refine wp_ldc2 X kl_X11_197 dX11_found_142 ?_
  refine wp_lload X dX11_found_145 4 rfl ?_
  refine wp_lmul X dX11_found_147 ?_
  refine wp_iload X dX11_found_148 7 rfl ?_
  refine wp_i2l X dX11_found_150 ?_
  refine wp_ladd X dX11_found_151 ?_
  refine wp_topl (fun t152 et152 => ?_)
  have h := h t152 et152
  refine wp_lstore (L' := [(5, .long t152), (10, .int t140), (9, .int t134), (0, .ref (ad Γ 177)), (1, .int x1), (7, .long x7), (11, .int x11), (12, .int x12)]) X dX11_found_152 (by decide) rfl ?_
  obtain ⟨t154, et154⟩ : ∃ y : Int32, y = x11 + (-1) := ⟨_, rfl⟩
  have h := h t154 et154
  refine wp_iinc (L' := [(11, .int t154), (5, .long t152), (10, .int t140), (9, .int t134), (0, .ref (ad Γ 177)), (1, .int x1), (7, .long x7), (12, .int x12)]) X dX11_found_154 6 rfl (ii_m1 et154) (by decide) rfl ?_
  refine wp_goto (tgt := 17) X dX11_found_157 (by decide) ?_
  refine wp_sub X [4, 5, 1, 6, 3, 2, 0] rfl ?_
  exact hkh _ _ _ _ _ _ _ h

set_option maxRecDepth 100000 in
set_option maxHeartbeats 4000000 in
theorem w_Model_found_b121 {Γ : Ctx} {Q : Int64 → MI → MJ → Prop} {x1 : Int32} {x5 : Int64} {x9 : Int32} {x10 : Int32} {x11 : Int32} {x12 : Int32} {x13 : Int32} {s0 : Int64} {s1 : Int64} {kh : Int64 → Int32 → Int32 → MI → MJ → Prop} (X : Cx Γ cX11_found 16 RX11 2) (Y : Rt Γ (Pl Q) (Option.some Jvm.ClassFile.FieldType.long))  (hkh : ∀ (x7 : Int64) (x12 : Int32) (x13 : Int32) (I : MI) (J : MJ), kh x7 x12 x13 I J → Wp Γ 16 28 [(0, .ref (ad Γ 177)), (1, .int x1), (5, .long x5), (7, .long x7), (9, .int x9), (10, .int x10), (11, .int x11), (12, .int x12), (13, .int x13)] [] I J) {I : MI} {J : MJ} (h : f_Model_found_b121 x12 x13 s0 s1 kh I J) : Wp Γ 16 121 [(0, .ref (ad Γ 177)), (1, .int x1), (5, .long x5), (9, .int x9), (10, .int x10), (11, .int x11), (12, .int x12), (13, .int x13)] [.long s1, .long s0] I J := by
  unfold f_Model_found_b121 at h
  refine wp_lsub X dX11_found_121 ?_
  refine wp_topl (fun t122 et122 => ?_)
  have h := h t122 et122
  refine wp_lstore (L' := [(7, .long t122), (0, .ref (ad Γ 177)), (1, .int x1), (5, .long x5), (9, .int x9), (10, .int x10), (11, .int x11), (12, .int x12), (13, .int x13)]) X dX11_found_122 (by decide) rfl ?_
  obtain ⟨t124, et124⟩ : ∃ y : Int32, y = x13 + 1 := ⟨_, rfl⟩
  have h := h t124 et124
  refine wp_iinc (L' := [(13, .int t124), (7, .long t122), (0, .ref (ad Γ 177)), (1, .int x1), (5, .long x5), (9, .int x9), (10, .int x10), (11, .int x11), (12, .int x12)]) X dX11_found_124 8 rfl (ii_1 et124) (by decide) rfl ?_
  refine wp_goto (tgt := 28) X dX11_found_127 (by decide) ?_
  refine wp_sub X [2, 3, 4, 1, 5, 6, 7, 8, 0] rfl ?_
  exact hkh _ _ _ _ _ h

set_option maxRecDepth 100000 in
set_option maxHeartbeats 4000000 in
theorem w_Model_found_b103 {Γ : Ctx} {Q : Int64 → MI → MJ → Prop} {x1 : Int32} {x5 : Int64} {x7 : Int64} {x9 : Int32} {x10 : Int32} {x11 : Int32} {x13 : Int32} {x14 : Int64} {s0 : Int32} {kh : Int64 → Int32 → Int32 → MI → MJ → Prop} (X : Cx Γ cX11_found 16 RX11 2) (Y : Rt Γ (Pl Q) (Option.some Jvm.ClassFile.FieldType.long))  (hkh : ∀ (x7 : Int64) (x12 : Int32) (x13 : Int32) (I : MI) (J : MJ), kh x7 x12 x13 I J → Wp Γ 16 28 [(0, .ref (ad Γ 177)), (1, .int x1), (5, .long x5), (7, .long x7), (9, .int x9), (10, .int x10), (11, .int x11), (12, .int x12), (13, .int x13)] [] I J) {I : MI} {J : MJ} (h : f_Model_found_b103 x7 x13 x14 s0 kh I J) : Wp Γ 16 103 [(0, .ref (ad Γ 177)), (1, .int x1), (5, .long x5), (7, .long x7), (9, .int x9), (10, .int x10), (11, .int x11), (13, .int x13), (14, .long x14)] [.int s0] I J := by
  unfold f_Model_found_b103 at h
  refine wp_istore (L' := [(12, .int s0), (0, .ref (ad Γ 177)), (1, .int x1), (5, .long x5), (7, .long x7), (9, .int x9), (10, .int x10), (11, .int x11), (13, .int x13), (14, .long x14)]) X dX11_found_103 (by decide) rfl ?_
  refine wp_lload X dX11_found_105 4 rfl ?_
  refine wp_lload X dX11_found_107 4 rfl ?_
  refine wp_lload X dX11_found_109 9 rfl ?_
  refine wp_lcmp_ge (tgt := 119) X dX11_found_111 dX11_found_112 (by decide) (fun hc => ?_) (fun hc => ?_)
  · have h := ite_t h hc
    refine wp_lload X dX11_found_119 9 rfl ?_
    refine wp_sub X [1, 2, 3, 5, 6, 7, 0, 8] rfl ?_
    exact w_Model_found_b121 X Y hkh h
  · have h := ite_f h hc
    refine wp_lconst X dX11_found_115 lc_0 ?_
    refine wp_goto (tgt := 121) X dX11_found_116 (by decide) ?_
    refine wp_sub X [1, 2, 3, 5, 6, 7, 0, 8] rfl ?_
    exact w_Model_found_b121 X Y hkh h

set_option maxRecDepth 100000 in
set_option maxHeartbeats 4000000 in
theorem w_Model_found_b87 {Γ : Ctx} {Q : Int64 → MI → MJ → Prop} {x1 : Int32} {x5 : Int64} {x7 : Int64} {x9 : Int32} {x10 : Int32} {x11 : Int32} {x13 : Int32} {s0 : Int64} {kh : Int64 → Int32 → Int32 → MI → MJ → Prop} (X : Cx Γ cX11_found 16 RX11 2) (Y : Rt Γ (Pl Q) (Option.some Jvm.ClassFile.FieldType.long))  (hkh : ∀ (x7 : Int64) (x12 : Int32) (x13 : Int32) (I : MI) (J : MJ), kh x7 x12 x13 I J → Wp Γ 16 28 [(0, .ref (ad Γ 177)), (1, .int x1), (5, .long x5), (7, .long x7), (9, .int x9), (10, .int x10), (11, .int x11), (12, .int x12), (13, .int x13)] [] I J) {I : MI} {J : MJ} (h : f_Model_found_b87 x7 x13 s0 kh I J) : Wp Γ 16 87 [(0, .ref (ad Γ 177)), (1, .int x1), (5, .long x5), (7, .long x7), (9, .int x9), (10, .int x10), (11, .int x11), (13, .int x13)] [.long s0] I J := by
  unfold f_Model_found_b87 at h
  refine wp_lstore (L' := [(14, .long s0), (0, .ref (ad Γ 177)), (1, .int x1), (5, .long x5), (7, .long x7), (9, .int x9), (10, .int x10), (11, .int x11), (13, .int x13)]) X dX11_found_87 (by decide) rfl ?_
  refine wp_lload X dX11_found_89 4 rfl ?_
  refine wp_lload X dX11_found_91 0 rfl ?_
  refine wp_lcmp_ge (tgt := 102) X dX11_found_93 dX11_found_94 (by decide) (fun hc => ?_) (fun hc => ?_)
  · have h := ite_t h hc
    refine wp_iconst X dX11_found_102 ic_m1 ?_
    refine wp_sub X [1, 2, 3, 4, 5, 6, 7, 8, 0] rfl ?_
    exact w_Model_found_b103 X Y hkh h
  · have h := ite_f h hc
    refine wp_iload X dX11_found_97 8 rfl ?_
    refine wp_goto (tgt := 103) X dX11_found_99 (by decide) ?_
    refine wp_sub X [1, 2, 3, 4, 5, 6, 7, 8, 0] rfl ?_
    exact w_Model_found_b103 X Y hkh h

set_option maxRecDepth 100000 in
set_option maxHeartbeats 4000000 in
theorem w_Model_found_L28 {Γ : Ctx} {Q : Int64 → MI → MJ → Prop} {x1 : Int32} {x5 : Int64} {x9 : Int32} {x10 : Int32} {x11 : Int32} {k130 : Int64 → Int32 → MI → MJ → Prop} (X : Cx Γ cX11_found 16 RX11 2) (Y : Rt Γ (Pl Q) (Option.some Jvm.ClassFile.FieldType.long))  (hk130 : ∀ (x7 : Int64) (x12 : Int32) (I : MI) (J : MJ), k130 x7 x12 I J → Wp Γ 16 130 [(0, .ref (ad Γ 177)), (1, .int x1), (5, .long x5), (7, .long x7), (11, .int x11), (12, .int x12)] [] I J) : ∀ (n : Nat) (x7 : Int64) (x12 : Int32) (x13 : Int32) (I : MI) (J : MJ), f_Model_found_L28 x1 x9 x10 x11 k130 n x7 x12 x13 I J → Wp Γ 16 28 [(0, .ref (ad Γ 177)), (1, .int x1), (5, .long x5), (7, .long x7), (9, .int x9), (10, .int x10), (11, .int x11), (12, .int x12), (13, .int x13)] [] I J := by
  intro n
  induction n with
  | zero => intro x7 x12 x13 I J h; exact absurd h (by simp [f_Model_found_L28])
  | succ n ih =>
  intro x7 x12 x13 I J h
  unfold f_Model_found_L28 at h
  refine wp_iload X dX11_found_28 8 rfl ?_
  refine wp_iconst X dX11_found_30 ic_4 ?_
  refine wp_icmp_ge (tgt := 130) X dX11_found_31 (by decide) (fun hc => ?_) (fun hc => ?_)
  · have h := ite_t h hc
    refine wp_sub X [0, 1, 2, 3, 6, 7] rfl ?_
    exact hk130 _ _ _ _ h
  · have h := ite_f h hc
    refine wp_iload X dX11_found_34 7 rfl ?_
    refine wp_if_ge (tgt := 130) X dX11_found_36 (by decide) (fun hc => ?_) (fun hc => ?_)
    · have h := ite_t h hc
      refine wp_sub X [0, 1, 2, 3, 6, 7] rfl ?_
      exact hk130 _ _ _ _ h
    · have h := ite_f h hc
      refine wp_aload_n X dX11_found_39 0 rfl ?_
      refine wp_iload X dX11_found_40 4 rfl ?_
      refine pf_X11_165 X sh_177 dX11_found_42 (fun I42 eI42 => ?_)
      have h := h I42 eI42
      refine wp_aload_n X dX11_found_45 0 rfl ?_
      refine wp_iload X dX11_found_46 5 rfl ?_
      refine pf_X11_172 X sh_177 dX11_found_48 (fun I48 eI48 => ?_)
      have h := h I48 eI48
      refine wp_aload_n X dX11_found_51 0 rfl ?_
      refine wp_iload_n X dX11_found_52 1 rfl ?_
      refine wp_iload X dX11_found_53 8 rfl ?_
      refine cv_Model_go X dX11_found_55 ml_X11_179  h (Nat.le_of_ble_eq_true rfl) (by decide) (fun r55 I55 J55 h => ?_)
      refine wp_if_eq (tgt := 86) X dX11_found_58 (by decide) (fun hc => ?_) (fun hc => ?_)
      · have h := ite_t h hc
        refine wp_lconst X dX11_found_86 lc_0 ?_
        refine wp_sub X [0, 1, 2, 3, 4, 5, 6, 8] rfl ?_
        exact w_Model_found_b87 X Y ih h
      · have h := ite_f h hc
        refine wp_aload_n X dX11_found_61 0 rfl ?_
        refine gf_X11_78 (o' := 200) X sh_177 rfl dX11_found_62 ?_
        refine wp_bipush X dX11_found_65 bi_56 ?_
        refine wp_iload X dX11_found_67 6 rfl ?_
        refine wp_imul X dX11_found_69 ?_
        refine wp_iconst X dX11_found_70 ic_4 ?_
        refine wp_aload_n X dX11_found_71 0 rfl ?_
        refine gf_X11_165 X sh_177 dX11_found_72 ?_
        refine wp_imul X dX11_found_75 ?_
        refine wp_iadd X dX11_found_76 ?_
        refine wp_aload_n X dX11_found_77 0 rfl ?_
        refine gf_X11_172 X sh_177 dX11_found_78 ?_
        refine wp_iadd X dX11_found_81 ?_
        obtain ⟨hb82, h⟩ := h
        refine wp_lald X sh_200 hb82 dX11_found_82 ?_
        refine wp_goto (tgt := 87) X dX11_found_83 (by decide) ?_
        refine wp_sub X [0, 1, 2, 3, 4, 5, 6, 8] rfl ?_
        exact w_Model_found_b87 X Y ih h

set_option maxRecDepth 100000 in
set_option maxHeartbeats 4000000 in
theorem w_Model_found_L17 {Γ : Ctx} {Q : Int64 → MI → MJ → Prop} {x1 : Int32} {k160 : Int64 → MI → MJ → Prop} (X : Cx Γ cX11_found 16 RX11 2) (Y : Rt Γ (Pl Q) (Option.some Jvm.ClassFile.FieldType.long))  (hk160 : ∀ (x5 : Int64) (I : MI) (J : MJ), k160 x5 I J → Wp Γ 16 160 [(5, .long x5)] [] I J) : ∀ (n : Nat) (x5 : Int64) (x7 : Int64) (x9 : Int32) (x10 : Int32) (x11 : Int32) (I : MI) (J : MJ), f_Model_found_L17 x1 k160 n x5 x7 x9 x10 x11 I J → Wp Γ 16 17 [(0, .ref (ad Γ 177)), (1, .int x1), (5, .long x5), (7, .long x7), (9, .int x9), (10, .int x10), (11, .int x11)] [] I J := by
  intro n
  induction n with
  | zero => intro x5 x7 x9 x10 x11 I J h; exact absurd h (by simp [f_Model_found_L17])
  | succ n ih =>
  intro x5 x7 x9 x10 x11 I J h
  unfold f_Model_found_L17 at h
  refine wp_iload X dX11_found_17 6 rfl ?_
  refine wp_if_lt (tgt := 160) X dX11_found_19 (by decide) (fun hc => ?_) (fun hc => ?_)
  · have h := ite_t h hc
    refine wp_sub X [2] rfl ?_
    exact hk160 _ _ _ h
  · have h := ite_f h hc
    refine wp_iconst X dX11_found_22 ic_m1 ?_
    refine wp_istore (L' := [(12, .int (-1)), (0, .ref (ad Γ 177)), (1, .int x1), (5, .long x5), (7, .long x7), (9, .int x9), (10, .int x10), (11, .int x11)]) X dX11_found_23 (by decide) rfl ?_
    refine wp_iconst X dX11_found_25 ic_0 ?_
    refine wp_istore (L' := [(13, .int 0), (12, .int (-1)), (0, .ref (ad Γ 177)), (1, .int x1), (5, .long x5), (7, .long x7), (9, .int x9), (10, .int x10), (11, .int x11)]) X dX11_found_26 (by decide) rfl ?_
    obtain ⟨n, h⟩ := h
    refine wp_sub X [2, 3, 4, 5, 6, 7, 8, 1, 0] rfl ?_
    refine w_Model_found_L28 X Y  ?_ n _ _ _ _ _ h
    · intro z130_x7 z130_x12 I J h
      exact w_Model_found_b130 X Y ih h

set_option maxRecDepth 100000 in
set_option maxHeartbeats 4000000 in
theorem w_Model_found_b0 {Γ : Ctx} {Q : Int64 → MI → MJ → Prop} {x1 : Int32} {x2 : Int32} {x3 : Int64}  (X : Cx Γ cX11_found 16 RX11 2) (Y : Rt Γ (Pl Q) (Option.some Jvm.ClassFile.FieldType.long))   {I : MI} {J : MJ} (h : f_Model_found x1 x2 x3 I J Q) : Wp Γ 16 0 [(0, .ref (ad Γ 177)), (1, .int x1), (2, .int x2), (3, .long x3)] [] I J := by
  unfold f_Model_found at h
  refine wp_lconst X dX11_found_0 lc_1 ?_
  refine wp_lstore (L' := [(5, .long 1), (0, .ref (ad Γ 177)), (1, .int x1), (2, .int x2), (3, .long x3)]) X dX11_found_1 (by decide) rfl ?_
  refine wp_lload_n X dX11_found_3 4 rfl ?_
  refine wp_lstore (L' := [(7, .long x3), (5, .long 1), (0, .ref (ad Γ 177)), (1, .int x1), (2, .int x2), (3, .long x3)]) X dX11_found_4 (by decide) rfl ?_
  refine wp_iconst X dX11_found_6 ic_0 ?_
  refine wp_istore (L' := [(9, .int 0), (7, .long x3), (5, .long 1), (0, .ref (ad Γ 177)), (1, .int x1), (2, .int x2), (3, .long x3)]) X dX11_found_7 (by decide) rfl ?_
  refine wp_iconst X dX11_found_9 ic_0 ?_
  refine wp_istore (L' := [(10, .int 0), (9, .int 0), (7, .long x3), (5, .long 1), (0, .ref (ad Γ 177)), (1, .int x1), (2, .int x2), (3, .long x3)]) X dX11_found_10 (by decide) rfl ?_
  refine wp_iload_n X dX11_found_12 6 rfl ?_
  refine wp_iconst X dX11_found_13 ic_1 ?_
  refine wp_isub X dX11_found_14 ?_
  refine wp_topi (fun t15 et15 => ?_)
  have h := h t15 et15
  refine wp_istore (L' := [(11, .int t15), (10, .int 0), (9, .int 0), (7, .long x3), (5, .long 1), (0, .ref (ad Γ 177)), (1, .int x1), (2, .int x2), (3, .long x3)]) X dX11_found_15 (by decide) rfl ?_
  obtain ⟨n, h⟩ := h
  refine wp_sub X [5, 6, 4, 3, 2, 1, 0] rfl ?_
  refine w_Model_found_L17 X Y  ?_ n _ _ _ _ _ _ _ h
  · intro z160_x5 I J h
    refine wp_lload X dX11_found_160 0 rfl ?_
    exact wp_lret X Y dX11_found_162 ⟨_, rfl, h⟩

theorem c_Model_found {l : Launch} {g : GE} (hg : Inj g) {I : MI} {J : MJ} {Q : Int64 → MI → MJ → Prop} {x1 : Int32} {x2 : Int32} {x3 : Int64}  (h : f_Model_found x1 x2 x3 I J Q) : Cm l g yX11_found cX11_found 16 (Option.some Jvm.ClassFile.FieldType.long) 2 [.ref (g.1 177), .int x1, .int x2, .long x3] I J (Pl Q) := by
  refine Cm.of (As := fun ad => [.ref (ad 177), .int x1, .int x2, .long x3]) hg pn_X11 (Nat.le_of_ble_eq_true rfl) ?_
  exact (fun Γ _ _ X Y => w_Model_found_b0 X Y  h)
theorem cv_Model_found {Γ : Ctx} {cc : ByteArray} {nL d pc index : Nat} {own : String} {L : List (Nat × Value)} {rest : List Value} {I : MI} {J : MJ} {Q : Int64 → MI → MJ → Prop} {x1 : Int32} {x2 : Int32} {x3 : Int64} (X : Cx Γ cc nL own d) (hd : decode cc pc = .ok (.invokevirtual index, 3)) (hlink : Cond.methodLink own index yX11_found ∈ TT)  (h : f_Model_found x1 x2 x3 I J Q) (hrest : (rest.map fun v => v.category).sum ≤ 8) (hdd : 2 + 1 ≤ d) (kk : ∀ (r : Int64) (I' : MI) (J' : MJ), Q r I' J' → Wp Γ nL (pc + 3) L (.long r :: rest) I' J') : Wp Γ nL pc L (.long x3 :: .int x2 :: .int x1 :: .ref (ad Γ 177) :: rest) I J :=
  wp_callV (As := [.int x1, .int x2, .long x3]) (rest := rest) (T := TX11) (N := 62) X hd hlink mv_X11_found sh_177 (by decide) rfl (c_Model_found X.inj  h) rfl rfl hrest hdd (fun v I' J' hv => by obtain ⟨r, rfl, hq⟩ := hv; exact kk r I' J' hq)
theorem dX11_word_0 : decode cX11_word 0 = .ok (.aload_n 0, 1) := by decide +kernel
theorem dX11_word_1 : decode cX11_word 1 = .ok (.iload_n 1, 1) := by decide +kernel
theorem dX11_word_2 : decode cX11_word 2 = .ok (.invokevirtual 242, 3) := by decide +kernel
theorem dX11_word_5 : decode cX11_word 5 = .ok (.ifCond .eq 19, 3) := by decide +kernel
theorem dX11_word_8 : decode cX11_word 8 = .ok (.iload_n 2, 1) := by decide +kernel
theorem dX11_word_9 : decode cX11_word 9 = .ok (.ifCond .lt 15, 3) := by decide +kernel
theorem dX11_word_12 : decode cX11_word 12 = .ok (.iload_n 2, 1) := by decide +kernel
theorem dX11_word_13 : decode cX11_word 13 = .ok (.bipush 7, 2) := by decide +kernel
theorem dX11_word_15 : decode cX11_word 15 = .ok (.if_icmp .gt 9, 3) := by decide +kernel
theorem dX11_word_18 : decode cX11_word 18 = .ok (.lload_n 3, 1) := by decide +kernel
theorem dX11_word_19 : decode cX11_word 19 = .ok (.lconst 0, 1) := by decide +kernel
theorem dX11_word_20 : decode cX11_word 20 = .ok (.lcmp, 1) := by decide +kernel
theorem dX11_word_21 : decode cX11_word 21 = .ok (.ifCond .ge 7, 3) := by decide +kernel
theorem dX11_word_24 : decode cX11_word 24 = .ok (.ldc2_w 261, 3) := by decide +kernel
theorem dX11_word_27 : decode cX11_word 27 = .ok (.lreturn, 1) := by decide +kernel
theorem dX11_word_28 : decode cX11_word 28 = .ok (.aload_n 0, 1) := by decide +kernel
theorem dX11_word_29 : decode cX11_word 29 = .ok (.iload_n 1, 1) := by decide +kernel
theorem dX11_word_30 : decode cX11_word 30 = .ok (.iload_n 2, 1) := by decide +kernel
theorem dX11_word_31 : decode cX11_word 31 = .ok (.invokevirtual 263, 3) := by decide +kernel
theorem dX11_word_34 : decode cX11_word 34 = .ok (.lload_n 3, 1) := by decide +kernel
theorem dX11_word_35 : decode cX11_word 35 = .ok (.lstore 5, 2) := by decide +kernel
theorem dX11_word_37 : decode cX11_word 37 = .ok (.iconst 0, 1) := by decide +kernel
theorem dX11_word_38 : decode cX11_word 38 = .ok (.istore 7, 2) := by decide +kernel
theorem dX11_word_40 : decode cX11_word 40 = .ok (.iload 7, 2) := by decide +kernel
theorem dX11_word_42 : decode cX11_word 42 = .ok (.bipush 30, 2) := by decide +kernel
theorem dX11_word_44 : decode cX11_word 44 = .ok (.if_icmp .gt 40, 3) := by decide +kernel
theorem dX11_word_47 : decode cX11_word 47 = .ok (.lload 5, 2) := by decide +kernel
theorem dX11_word_49 : decode cX11_word 49 = .ok (.aload_n 0, 1) := by decide +kernel
theorem dX11_word_50 : decode cX11_word 50 = .ok (.getfield 78, 3) := by decide +kernel
theorem dX11_word_53 : decode cX11_word 53 = .ok (.bipush 56, 2) := by decide +kernel
theorem dX11_word_55 : decode cX11_word 55 = .ok (.iload 7, 2) := by decide +kernel
theorem dX11_word_57 : decode cX11_word 57 = .ok (.imul, 1) := by decide +kernel
theorem dX11_word_58 : decode cX11_word 58 = .ok (.laload, 1) := by decide +kernel
theorem dX11_word_59 : decode cX11_word 59 = .ok (.lcmp, 1) := by decide +kernel
theorem dX11_word_60 : decode cX11_word 60 = .ok (.ifCond .lt 24, 3) := by decide +kernel
theorem dX11_word_63 : decode cX11_word 63 = .ok (.lload 5, 2) := by decide +kernel
theorem dX11_word_65 : decode cX11_word 65 = .ok (.aload_n 0, 1) := by decide +kernel
theorem dX11_word_66 : decode cX11_word 66 = .ok (.getfield 78, 3) := by decide +kernel
theorem dX11_word_69 : decode cX11_word 69 = .ok (.bipush 56, 2) := by decide +kernel
theorem dX11_word_71 : decode cX11_word 71 = .ok (.iload 7, 2) := by decide +kernel
theorem dX11_word_73 : decode cX11_word 73 = .ok (.imul, 1) := by decide +kernel
theorem dX11_word_74 : decode cX11_word 74 = .ok (.laload, 1) := by decide +kernel
theorem dX11_word_75 : decode cX11_word 75 = .ok (.lsub, 1) := by decide +kernel
theorem dX11_word_76 : decode cX11_word 76 = .ok (.lstore 5, 2) := by decide +kernel
theorem dX11_word_78 : decode cX11_word 78 = .ok (.iinc 7 1, 3) := by decide +kernel
theorem dX11_word_81 : decode cX11_word 81 = .ok (.goto (-41), 3) := by decide +kernel
theorem dX11_word_84 : decode cX11_word 84 = .ok (.iload 7, 2) := by decide +kernel
theorem dX11_word_86 : decode cX11_word 86 = .ok (.bipush 30, 2) := by decide +kernel
theorem dX11_word_88 : decode cX11_word 88 = .ok (.if_icmp .le 7, 3) := by decide +kernel
theorem dX11_word_91 : decode cX11_word 91 = .ok (.ldc2_w 261, 3) := by decide +kernel
theorem dX11_word_94 : decode cX11_word 94 = .ok (.lreturn, 1) := by decide +kernel
theorem dX11_word_95 : decode cX11_word 95 = .ok (.aload_n 0, 1) := by decide +kernel
theorem dX11_word_96 : decode cX11_word 96 = .ok (.iload_n 1, 1) := by decide +kernel
theorem dX11_word_97 : decode cX11_word 97 = .ok (.iload 7, 2) := by decide +kernel
theorem dX11_word_99 : decode cX11_word 99 = .ok (.lload 5, 2) := by decide +kernel
theorem dX11_word_101 : decode cX11_word 101 = .ok (.invokevirtual 266, 3) := by decide +kernel
theorem dX11_word_104 : decode cX11_word 104 = .ok (.lreturn, 1) := by decide +kernel
def f_Model_word_b84 (x1 : Int32) (x5 : Int64) (x7 : Int32) (Q : Int64 → MI → MJ → Prop) (I : MI) (J : MJ) : Prop :=
  (if x7 ≤ 30 then f_Model_found x1 x7 x5 I J (fun r101 I101 J101 => Q r101 I101 J101) else Q (-1) I J)
def f_Model_word_L40 (k84 : Int64 → Int32 → MI → MJ → Prop) : Nat → Int64 → Int32 → MI → MJ → Prop
  | 0, _, _, _, _ => False
  | nf40 + 1, x5, x7, I, J =>
  (if 30 < x7 then k84 x5 x7 I J else vp_in (56 * x7) 1736 ∧ (if x5 < (J 200 (56 * x7).toNatClampNeg) then k84 x5 x7 I J else vp_in (56 * x7) 1736 ∧ ∀ t76 : Int64, t76 = x5 - (J 200 (56 * x7).toNatClampNeg) → ∀ t78 : Int32, t78 = x7 + 1 → f_Model_word_L40 k84 nf40 t76 t78 I J))
def f_Model_word (x1 : Int32) (x2 : Int32) (x3 : Int64) (I : MI) (J : MJ) (Q : Int64 → MI → MJ → Prop) : Prop :=
  f_Model_isMachine x1 I J (fun r2 I2 J2 => (if r2 = 0 then Q (-1) I2 J2 else (if x2 < 0 then Q (-1) I2 J2 else (if 7 < x2 then Q (-1) I2 J2 else (if 0 ≤ x3 then f_Model_findTails x1 x2 I2 J2 (fun I31 J31 => ∃ n, f_Model_word_L40 (fun (z84_x5 : Int64) (z84_x7 : Int32) (I : MI) (J : MJ) => f_Model_word_b84 x1 z84_x5 z84_x7 Q I J) n x3 0 I31 J31) else Q (-1) I2 J2)))))
set_option maxRecDepth 100000 in
set_option maxHeartbeats 4000000 in
theorem w_Model_word_b84 {Γ : Ctx} {Q : Int64 → MI → MJ → Prop} {x1 : Int32} {x5 : Int64} {x7 : Int32}  (X : Cx Γ cX11_word 8 RX11 4) (Y : Rt Γ (Pl Q) (Option.some Jvm.ClassFile.FieldType.long))   {I : MI} {J : MJ} (h : f_Model_word_b84 x1 x5 x7 Q I J) : Wp Γ 8 84 [(0, .ref (ad Γ 177)), (1, .int x1), (5, .long x5), (7, .int x7)] [] I J := by
  unfold f_Model_word_b84 at h
  refine wp_iload X dX11_word_84 3 rfl ?_
  refine wp_bipush X dX11_word_86 bi_30 ?_
  refine wp_icmp_le (tgt := 95) X dX11_word_88 (by decide) (fun hc => ?_) (fun hc => ?_)
  · have h := ite_t h hc
    refine wp_aload_n X dX11_word_95 0 rfl ?_
    refine wp_iload_n X dX11_word_96 1 rfl ?_
    refine wp_iload X dX11_word_97 3 rfl ?_
    refine wp_lload X dX11_word_99 2 rfl ?_
    refine cv_Model_found X dX11_word_101 ml_X11_266  h (Nat.le_of_ble_eq_true rfl) (by decide) (fun r101 I101 J101 h => ?_)
    exact wp_lret X Y dX11_word_104 ⟨_, rfl, h⟩
  · have h := ite_f h hc
    refine wp_ldc2 X kl_X11_261 dX11_word_91 ?_
    exact wp_lret X Y dX11_word_94 ⟨_, rfl, h⟩

set_option maxRecDepth 100000 in
set_option maxHeartbeats 4000000 in
theorem w_Model_word_L40 {Γ : Ctx} {Q : Int64 → MI → MJ → Prop} {x1 : Int32} {k84 : Int64 → Int32 → MI → MJ → Prop} (X : Cx Γ cX11_word 8 RX11 4) (Y : Rt Γ (Pl Q) (Option.some Jvm.ClassFile.FieldType.long))  (hk84 : ∀ (x5 : Int64) (x7 : Int32) (I : MI) (J : MJ), k84 x5 x7 I J → Wp Γ 8 84 [(0, .ref (ad Γ 177)), (1, .int x1), (5, .long x5), (7, .int x7)] [] I J) : ∀ (n : Nat) (x5 : Int64) (x7 : Int32) (I : MI) (J : MJ), f_Model_word_L40 k84 n x5 x7 I J → Wp Γ 8 40 [(0, .ref (ad Γ 177)), (1, .int x1), (5, .long x5), (7, .int x7)] [] I J := by
  intro n
  induction n with
  | zero => intro x5 x7 I J h; exact absurd h (by simp [f_Model_word_L40])
  | succ n ih =>
  intro x5 x7 I J h
  unfold f_Model_word_L40 at h
  refine wp_iload X dX11_word_40 3 rfl ?_
  refine wp_bipush X dX11_word_42 bi_30 ?_
  refine wp_icmp_gt (tgt := 84) X dX11_word_44 (by decide) (fun hc => ?_) (fun hc => ?_)
  · have h := ite_t h hc
    exact hk84 _ _ _ _ h
  · have h := ite_f h hc
    refine wp_lload X dX11_word_47 2 rfl ?_
    refine wp_aload_n X dX11_word_49 0 rfl ?_
    refine gf_X11_78 (o' := 200) X sh_177 rfl dX11_word_50 ?_
    refine wp_bipush X dX11_word_53 bi_56 ?_
    refine wp_iload X dX11_word_55 3 rfl ?_
    refine wp_imul X dX11_word_57 ?_
    obtain ⟨hb58, h⟩ := h
    refine wp_lald X sh_200 hb58 dX11_word_58 ?_
    refine wp_lcmp_lt (tgt := 84) X dX11_word_59 dX11_word_60 (by decide) (fun hc => ?_) (fun hc => ?_)
    · have h := ite_t h hc
      exact hk84 _ _ _ _ h
    · have h := ite_f h hc
      refine wp_lload X dX11_word_63 2 rfl ?_
      refine wp_aload_n X dX11_word_65 0 rfl ?_
      refine gf_X11_78 (o' := 200) X sh_177 rfl dX11_word_66 ?_
      refine wp_bipush X dX11_word_69 bi_56 ?_
      refine wp_iload X dX11_word_71 3 rfl ?_
      refine wp_imul X dX11_word_73 ?_
      obtain ⟨hb74, h⟩ := h
      refine wp_lald X sh_200 hb74 dX11_word_74 ?_
      refine wp_lsub X dX11_word_75 ?_
      refine wp_topl (fun t76 et76 => ?_)
      have h := h t76 et76
      refine wp_lstore (L' := [(5, .long t76), (0, .ref (ad Γ 177)), (1, .int x1), (7, .int x7)]) X dX11_word_76 (by decide) rfl ?_
      obtain ⟨t78, et78⟩ : ∃ y : Int32, y = x7 + 1 := ⟨_, rfl⟩
      have h := h t78 et78
      refine wp_iinc (L' := [(7, .int t78), (5, .long t76), (0, .ref (ad Γ 177)), (1, .int x1)]) X dX11_word_78 3 rfl (ii_1 et78) (by decide) rfl ?_
      refine wp_goto (tgt := 40) X dX11_word_81 (by decide) ?_
      refine wp_sub X [2, 3, 1, 0] rfl ?_
      exact ih _ _ _ _ h

set_option maxRecDepth 100000 in
set_option maxHeartbeats 4000000 in
theorem w_Model_word_b0 {Γ : Ctx} {Q : Int64 → MI → MJ → Prop} {x1 : Int32} {x2 : Int32} {x3 : Int64}  (X : Cx Γ cX11_word 8 RX11 4) (Y : Rt Γ (Pl Q) (Option.some Jvm.ClassFile.FieldType.long))   {I : MI} {J : MJ} (h : f_Model_word x1 x2 x3 I J Q) : Wp Γ 8 0 [(0, .ref (ad Γ 177)), (1, .int x1), (2, .int x2), (3, .long x3)] [] I J := by
  unfold f_Model_word at h
  refine wp_aload_n X dX11_word_0 0 rfl ?_
  refine wp_iload_n X dX11_word_1 1 rfl ?_
  refine cv_Model_isMachine X dX11_word_2 ml_X11_242  h (Nat.le_of_ble_eq_true rfl) (by decide) (fun r2 I2 J2 h => ?_)
  refine wp_if_eq (tgt := 24) X dX11_word_5 (by decide) (fun hc => ?_) (fun hc => ?_)
  · have h := ite_t h hc
    refine wp_ldc2 X kl_X11_261 dX11_word_24 ?_
    exact wp_lret X Y dX11_word_27 ⟨_, rfl, h⟩
  · have h := ite_f h hc
    refine wp_iload_n X dX11_word_8 2 rfl ?_
    refine wp_if_lt (tgt := 24) X dX11_word_9 (by decide) (fun hc => ?_) (fun hc => ?_)
    · have h := ite_t h hc
      refine wp_ldc2 X kl_X11_261 dX11_word_24 ?_
      exact wp_lret X Y dX11_word_27 ⟨_, rfl, h⟩
    · have h := ite_f h hc
      refine wp_iload_n X dX11_word_12 2 rfl ?_
      refine wp_bipush X dX11_word_13 bi_7 ?_
      refine wp_icmp_gt (tgt := 24) X dX11_word_15 (by decide) (fun hc => ?_) (fun hc => ?_)
      · have h := ite_t h hc
        refine wp_ldc2 X kl_X11_261 dX11_word_24 ?_
        exact wp_lret X Y dX11_word_27 ⟨_, rfl, h⟩
      · have h := ite_f h hc
        refine wp_lload_n X dX11_word_18 3 rfl ?_
        refine wp_lconst X dX11_word_19 lc_0 ?_
        refine wp_lcmp_ge (tgt := 28) X dX11_word_20 dX11_word_21 (by decide) (fun hc => ?_) (fun hc => ?_)
        · have h := ite_t h hc
          refine wp_aload_n X dX11_word_28 0 rfl ?_
          refine wp_iload_n X dX11_word_29 1 rfl ?_
          refine wp_iload_n X dX11_word_30 2 rfl ?_
          refine cv_Model_findTails X dX11_word_31 ml_X11_263  h (Nat.le_of_ble_eq_true rfl) (by decide) (fun I31 J31 h => ?_)
          refine wp_lload_n X dX11_word_34 3 rfl ?_
          refine wp_lstore (L' := [(5, .long x3), (0, .ref (ad Γ 177)), (1, .int x1), (2, .int x2), (3, .long x3)]) X dX11_word_35 (by decide) rfl ?_
          refine wp_iconst X dX11_word_37 ic_0 ?_
          refine wp_istore (L' := [(7, .int 0), (5, .long x3), (0, .ref (ad Γ 177)), (1, .int x1), (2, .int x2), (3, .long x3)]) X dX11_word_38 (by decide) rfl ?_
          obtain ⟨n, h⟩ := h
          refine wp_sub X [2, 3, 1, 0] rfl ?_
          refine w_Model_word_L40 X Y  ?_ n _ _ _ _ h
          · intro z84_x5 z84_x7 I J h
            exact w_Model_word_b84 X Y  h
        · have h := ite_f h hc
          refine wp_ldc2 X kl_X11_261 dX11_word_24 ?_
          exact wp_lret X Y dX11_word_27 ⟨_, rfl, h⟩

theorem c_Model_word {l : Launch} {g : GE} (hg : Inj g) {I : MI} {J : MJ} {Q : Int64 → MI → MJ → Prop} {x1 : Int32} {x2 : Int32} {x3 : Int64}  (h : f_Model_word x1 x2 x3 I J Q) : Cm l g yX11_word cX11_word 8 (Option.some Jvm.ClassFile.FieldType.long) 4 [.ref (g.1 177), .int x1, .int x2, .long x3] I J (Pl Q) := by
  refine Cm.of (As := fun ad => [.ref (ad 177), .int x1, .int x2, .long x3]) hg pn_X11 (Nat.le_of_ble_eq_true rfl) ?_
  exact (fun Γ _ _ X Y => w_Model_word_b0 X Y  h)
theorem cv_Model_word {Γ : Ctx} {cc : ByteArray} {nL d pc index : Nat} {own : String} {L : List (Nat × Value)} {rest : List Value} {I : MI} {J : MJ} {Q : Int64 → MI → MJ → Prop} {x1 : Int32} {x2 : Int32} {x3 : Int64} (X : Cx Γ cc nL own d) (hd : decode cc pc = .ok (.invokevirtual index, 3)) (hlink : Cond.methodLink own index yX11_word ∈ TT)  (h : f_Model_word x1 x2 x3 I J Q) (hrest : (rest.map fun v => v.category).sum ≤ 8) (hdd : 4 + 1 ≤ d) (kk : ∀ (r : Int64) (I' : MI) (J' : MJ), Q r I' J' → Wp Γ nL (pc + 3) L (.long r :: rest) I' J') : Wp Γ nL pc L (.long x3 :: .int x2 :: .int x1 :: .ref (ad Γ 177) :: rest) I J :=
  wp_callV (As := [.int x1, .int x2, .long x3]) (rest := rest) (T := TX11) (N := 62) X hd hlink mv_X11_word sh_177 (by decide) rfl (c_Model_word X.inj  h) rfl rfl hrest hdd (fun v I' J' hv => by obtain ⟨r, rfl, hq⟩ := hv; exact kk r I' J' hq)
theorem dX11_place_0 : decode cX11_place 0 = .ok (.aload_n 0, 1) := by decide +kernel
theorem dX11_place_1 : decode cX11_place 1 = .ok (.iload_n 1, 1) := by decide +kernel
theorem dX11_place_2 : decode cX11_place 2 = .ok (.invokevirtual 242, 3) := by decide +kernel
theorem dX11_place_5 : decode cX11_place 5 = .ok (.ifCond .eq 21, 3) := by decide +kernel
theorem dX11_place_8 : decode cX11_place 8 = .ok (.lload_n 2, 1) := by decide +kernel
theorem dX11_place_9 : decode cX11_place 9 = .ok (.invokestatic 245, 3) := by decide +kernel
theorem dX11_place_12 : decode cX11_place 12 = .ok (.ifCond .eq 14, 3) := by decide +kernel
theorem dX11_place_15 : decode cX11_place 15 = .ok (.aload_n 0, 1) := by decide +kernel
theorem dX11_place_16 : decode cX11_place 16 = .ok (.iload_n 1, 1) := by decide +kernel
theorem dX11_place_17 : decode cX11_place 17 = .ok (.lload_n 2, 1) := by decide +kernel
theorem dX11_place_18 : decode cX11_place 18 = .ok (.invokevirtual 253, 3) := by decide +kernel
theorem dX11_place_21 : decode cX11_place 21 = .ok (.bipush 8, 2) := by decide +kernel
theorem dX11_place_23 : decode cX11_place 23 = .ok (.if_icmp .ne 7, 3) := by decide +kernel
theorem dX11_place_26 : decode cX11_place 26 = .ok (.ldc2_w 261, 3) := by decide +kernel
theorem dX11_place_29 : decode cX11_place 29 = .ok (.lreturn, 1) := by decide +kernel
theorem dX11_place_30 : decode cX11_place 30 = .ok (.aload_n 0, 1) := by decide +kernel
theorem dX11_place_31 : decode cX11_place 31 = .ok (.iload_n 1, 1) := by decide +kernel
theorem dX11_place_32 : decode cX11_place 32 = .ok (.aload_n 0, 1) := by decide +kernel
theorem dX11_place_33 : decode cX11_place 33 = .ok (.iload_n 1, 1) := by decide +kernel
theorem dX11_place_34 : decode cX11_place 34 = .ok (.lload_n 2, 1) := by decide +kernel
theorem dX11_place_35 : decode cX11_place 35 = .ok (.invokevirtual 253, 3) := by decide +kernel
theorem dX11_place_38 : decode cX11_place 38 = .ok (.invokevirtual 263, 3) := by decide +kernel
theorem dX11_place_41 : decode cX11_place 41 = .ok (.lload_n 2, 1) := by decide +kernel
theorem dX11_place_42 : decode cX11_place 42 = .ok (.invokestatic 161, 3) := by decide +kernel
theorem dX11_place_45 : decode cX11_place 45 = .ok (.istore 4, 2) := by decide +kernel
theorem dX11_place_47 : decode cX11_place 47 = .ok (.lconst 0, 1) := by decide +kernel
theorem dX11_place_48 : decode cX11_place 48 = .ok (.lstore 5, 2) := by decide +kernel
theorem dX11_place_50 : decode cX11_place 50 = .ok (.iconst 0, 1) := by decide +kernel
theorem dX11_place_51 : decode cX11_place 51 = .ok (.istore 7, 2) := by decide +kernel
theorem dX11_place_53 : decode cX11_place 53 = .ok (.iload 7, 2) := by decide +kernel
theorem dX11_place_55 : decode cX11_place 55 = .ok (.iload 4, 2) := by decide +kernel
theorem dX11_place_57 : decode cX11_place 57 = .ok (.if_icmp .ge 24, 3) := by decide +kernel
theorem dX11_place_60 : decode cX11_place 60 = .ok (.lload 5, 2) := by decide +kernel
theorem dX11_place_62 : decode cX11_place 62 = .ok (.aload_n 0, 1) := by decide +kernel
theorem dX11_place_63 : decode cX11_place 63 = .ok (.getfield 78, 3) := by decide +kernel
theorem dX11_place_66 : decode cX11_place 66 = .ok (.bipush 56, 2) := by decide +kernel
theorem dX11_place_68 : decode cX11_place 68 = .ok (.iload 7, 2) := by decide +kernel
theorem dX11_place_70 : decode cX11_place 70 = .ok (.imul, 1) := by decide +kernel
theorem dX11_place_71 : decode cX11_place 71 = .ok (.laload, 1) := by decide +kernel
theorem dX11_place_72 : decode cX11_place 72 = .ok (.ladd, 1) := by decide +kernel
theorem dX11_place_73 : decode cX11_place 73 = .ok (.lstore 5, 2) := by decide +kernel
theorem dX11_place_75 : decode cX11_place 75 = .ok (.iinc 7 1, 3) := by decide +kernel
theorem dX11_place_78 : decode cX11_place 78 = .ok (.goto (-25), 3) := by decide +kernel
theorem dX11_place_81 : decode cX11_place 81 = .ok (.iconst 0, 1) := by decide +kernel
theorem dX11_place_82 : decode cX11_place 82 = .ok (.istore 7, 2) := by decide +kernel
theorem dX11_place_84 : decode cX11_place 84 = .ok (.iload 7, 2) := by decide +kernel
theorem dX11_place_86 : decode cX11_place 86 = .ok (.iload 4, 2) := by decide +kernel
theorem dX11_place_88 : decode cX11_place 88 = .ok (.if_icmp .ge 97, 3) := by decide +kernel
theorem dX11_place_91 : decode cX11_place 91 = .ok (.iconst 0, 1) := by decide +kernel
theorem dX11_place_92 : decode cX11_place 92 = .ok (.istore 8, 2) := by decide +kernel
theorem dX11_place_94 : decode cX11_place 94 = .ok (.iload 8, 2) := by decide +kernel
theorem dX11_place_96 : decode cX11_place 96 = .ok (.lload_n 2, 1) := by decide +kernel
theorem dX11_place_97 : decode cX11_place 97 = .ok (.iload 4, 2) := by decide +kernel
theorem dX11_place_99 : decode cX11_place 99 = .ok (.iload 7, 2) := by decide +kernel
theorem dX11_place_101 : decode cX11_place 101 = .ok (.invokestatic 175, 3) := by decide +kernel
theorem dX11_place_104 : decode cX11_place 104 = .ok (.if_icmp .ge 75, 3) := by decide +kernel
theorem dX11_place_107 : decode cX11_place 107 = .ok (.aload_n 0, 1) := by decide +kernel
theorem dX11_place_108 : decode cX11_place 108 = .ok (.invokevirtual 183, 3) := by decide +kernel
theorem dX11_place_111 : decode cX11_place 111 = .ok (.aload_n 0, 1) := by decide +kernel
theorem dX11_place_112 : decode cX11_place 112 = .ok (.iload_n 1, 1) := by decide +kernel
theorem dX11_place_113 : decode cX11_place 113 = .ok (.lload_n 2, 1) := by decide +kernel
theorem dX11_place_114 : decode cX11_place 114 = .ok (.iconst 0, 1) := by decide +kernel
theorem dX11_place_115 : decode cX11_place 115 = .ok (.iload 7, 2) := by decide +kernel
theorem dX11_place_117 : decode cX11_place 117 = .ok (.invokevirtual 186, 3) := by decide +kernel
theorem dX11_place_120 : decode cX11_place 120 = .ok (.istore 9, 2) := by decide +kernel
theorem dX11_place_122 : decode cX11_place 122 = .ok (.lload 5, 2) := by decide +kernel
theorem dX11_place_124 : decode cX11_place 124 = .ok (.iload 9, 2) := by decide +kernel
theorem dX11_place_126 : decode cX11_place 126 = .ok (.ifCond .eq 43, 3) := by decide +kernel
theorem dX11_place_129 : decode cX11_place 129 = .ok (.aload_n 0, 1) := by decide +kernel
theorem dX11_place_130 : decode cX11_place 130 = .ok (.iload_n 1, 1) := by decide +kernel
theorem dX11_place_131 : decode cX11_place 131 = .ok (.iload 8, 2) := by decide +kernel
theorem dX11_place_133 : decode cX11_place 133 = .ok (.invokevirtual 179, 3) := by decide +kernel
theorem dX11_place_136 : decode cX11_place 136 = .ok (.ifCond .eq 33, 3) := by decide +kernel
theorem dX11_place_139 : decode cX11_place 139 = .ok (.aload_n 0, 1) := by decide +kernel
theorem dX11_place_140 : decode cX11_place 140 = .ok (.getfield 78, 3) := by decide +kernel
theorem dX11_place_143 : decode cX11_place 143 = .ok (.bipush 56, 2) := by decide +kernel
theorem dX11_place_145 : decode cX11_place 145 = .ok (.iload 4, 2) := by decide +kernel
theorem dX11_place_147 : decode cX11_place 147 = .ok (.iconst 1, 1) := by decide +kernel
theorem dX11_place_148 : decode cX11_place 148 = .ok (.isub, 1) := by decide +kernel
theorem dX11_place_149 : decode cX11_place 149 = .ok (.iload 7, 2) := by decide +kernel
theorem dX11_place_151 : decode cX11_place 151 = .ok (.isub, 1) := by decide +kernel
theorem dX11_place_152 : decode cX11_place 152 = .ok (.imul, 1) := by decide +kernel
theorem dX11_place_153 : decode cX11_place 153 = .ok (.iconst 4, 1) := by decide +kernel
theorem dX11_place_154 : decode cX11_place 154 = .ok (.aload_n 0, 1) := by decide +kernel
theorem dX11_place_155 : decode cX11_place 155 = .ok (.getfield 165, 3) := by decide +kernel
theorem dX11_place_158 : decode cX11_place 158 = .ok (.imul, 1) := by decide +kernel
theorem dX11_place_159 : decode cX11_place 159 = .ok (.iadd, 1) := by decide +kernel
theorem dX11_place_160 : decode cX11_place 160 = .ok (.aload_n 0, 1) := by decide +kernel
theorem dX11_place_161 : decode cX11_place 161 = .ok (.getfield 172, 3) := by decide +kernel
theorem dX11_place_164 : decode cX11_place 164 = .ok (.iadd, 1) := by decide +kernel
theorem dX11_place_165 : decode cX11_place 165 = .ok (.laload, 1) := by decide +kernel
theorem dX11_place_166 : decode cX11_place 166 = .ok (.goto 4, 3) := by decide +kernel
theorem dX11_place_169 : decode cX11_place 169 = .ok (.lconst 0, 1) := by decide +kernel
theorem dX11_place_170 : decode cX11_place 170 = .ok (.ladd, 1) := by decide +kernel
theorem dX11_place_171 : decode cX11_place 171 = .ok (.lstore 5, 2) := by decide +kernel
theorem dX11_place_173 : decode cX11_place 173 = .ok (.iinc 8 1, 3) := by decide +kernel
theorem dX11_place_176 : decode cX11_place 176 = .ok (.goto (-82), 3) := by decide +kernel
theorem dX11_place_179 : decode cX11_place 179 = .ok (.iinc 7 1, 3) := by decide +kernel
theorem dX11_place_182 : decode cX11_place 182 = .ok (.goto (-98), 3) := by decide +kernel
theorem dX11_place_185 : decode cX11_place 185 = .ok (.lload 5, 2) := by decide +kernel
theorem dX11_place_187 : decode cX11_place 187 = .ok (.lreturn, 1) := by decide +kernel
def f_Model_place_b170 (x8 : Int32) (s0 : Int64) (s1 : Int64) (kh : Int64 → Int32 → MI → MJ → Prop) (I : MI) (J : MJ) : Prop :=
  ∀ t171 : Int64, t171 = s0 + s1 → ∀ t173 : Int32, t173 = x8 + 1 → kh t171 t173 I J
def f_Model_place_b169 (x8 : Int32) (s0 : Int64) (kh : Int64 → Int32 → MI → MJ → Prop) (I : MI) (J : MJ) : Prop :=
  f_Model_place_b170 x8 s0 0 kh I J
def f_Model_place_L94 (x1 : Int32) (x2 : Int64) (x4 : Int32) (x7 : Int32) (k179 : Int64 → MI → MJ → Prop) : Nat → Int64 → Int32 → MI → MJ → Prop
  | 0, _, _, _, _ => False
  | nf94 + 1, x5, x8, I, J =>
  f_Model_signOf x2 x4 x7 I J (fun r101 I101 J101 => (if r101 ≤ x8 then k179 x5 I101 J101 else f_Model_begin I101 J101 (fun I108 J108 => f_Model_goAll x1 x2 (0 : Int32) x7 I108 J108 (fun r117 I117 J117 => (if r117 = 0 then f_Model_place_b169 x8 x5 (f_Model_place_L94 x1 x2 x4 x7 k179 nf94) I117 J117 else f_Model_go x1 x8 I117 J117 (fun r133 I133 J133 => (if r133 = 0 then f_Model_place_b169 x8 x5 (f_Model_place_L94 x1 x2 x4 x7 k179 nf94) I133 J133 else vp_in (((56 * ((x4 - 1) - x7)) + (4 * (I133 177 14))) + (I133 177 15)) 1736 ∧ f_Model_place_b170 x8 x5 (J133 200 (((56 * ((x4 - 1) - x7)) + (4 * (I133 177 14))) + (I133 177 15)).toNatClampNeg) (f_Model_place_L94 x1 x2 x4 x7 k179 nf94) I133 J133)))))))
def f_Model_place_L84 (x1 : Int32) (x2 : Int64) (x4 : Int32) (k185 : Int64 → MI → MJ → Prop) : Nat → Int64 → Int32 → MI → MJ → Prop
  | 0, _, _, _, _ => False
  | nf84 + 1, x5, x7, I, J =>
  (if x4 ≤ x7 then k185 x5 I J else ∃ n, f_Model_place_L94 x1 x2 x4 x7 (fun (z179_x5 : Int64) (I : MI) (J : MJ) => ∀ t179 : Int32, t179 = x7 + 1 → f_Model_place_L84 x1 x2 x4 k185 nf84 z179_x5 t179 I J) n x5 0 I J)
def f_Model_place_L53 (x4 : Int32) (k81 : Int64 → MI → MJ → Prop) : Nat → Int64 → Int32 → MI → MJ → Prop
  | 0, _, _, _, _ => False
  | nf53 + 1, x5, x7, I, J =>
  (if x4 ≤ x7 then k81 x5 I J else vp_in (56 * x7) 1736 ∧ ∀ t73 : Int64, t73 = x5 + (J 200 (56 * x7).toNatClampNeg) → ∀ t75 : Int32, t75 = x7 + 1 → f_Model_place_L53 x4 k81 nf53 t73 t75 I J)
def f_Model_place (x1 : Int32) (x2 : Int64) (I : MI) (J : MJ) (Q : Int64 → MI → MJ → Prop) : Prop :=
  f_Model_isMachine x1 I J (fun r2 I2 J2 => (if r2 = 0 then Q (-1) I2 J2 else f_Model_isWord x2 I2 J2 (fun r9 I9 J9 => (if r9 = 0 then Q (-1) I9 J9 else f_Model_answerBy x1 x2 I9 J9 (fun r18 I18 J18 => (if r18 = 8 then Q (-1) I18 J18 else f_Model_answerBy x1 x2 I18 J18 (fun r35 I35 J35 => f_Model_findTails x1 r35 I35 J35 (fun I38 J38 => f_Model_lengthOf x2 I38 J38 (fun r42 I42 J42 => ∃ n, f_Model_place_L53 r42 (fun (z81_x5 : Int64) (I : MI) (J : MJ) => ∃ n, f_Model_place_L84 x1 x2 r42 (fun (z185_x5 : Int64) (I : MI) (J : MJ) => Q z185_x5 I J) n z81_x5 0 I J) n 0 0 I42 J42)))))))))
set_option maxRecDepth 100000 in
set_option maxHeartbeats 4000000 in
theorem w_Model_place_b170 {Γ : Ctx} {Q : Int64 → MI → MJ → Prop} {x1 : Int32} {x2 : Int64} {x4 : Int32} {x7 : Int32} {x8 : Int32} {s0 : Int64} {s1 : Int64} {kh : Int64 → Int32 → MI → MJ → Prop} (X : Cx Γ cX11_place 10 RX11 4) (Y : Rt Γ (Pl Q) (Option.some Jvm.ClassFile.FieldType.long))  (hkh : ∀ (x5 : Int64) (x8 : Int32) (I : MI) (J : MJ), kh x5 x8 I J → Wp Γ 10 94 [(0, .ref (ad Γ 177)), (1, .int x1), (2, .long x2), (4, .int x4), (5, .long x5), (7, .int x7), (8, .int x8)] [] I J) {I : MI} {J : MJ} (h : f_Model_place_b170 x8 s0 s1 kh I J) : Wp Γ 10 170 [(0, .ref (ad Γ 177)), (1, .int x1), (2, .long x2), (4, .int x4), (7, .int x7), (8, .int x8)] [.long s1, .long s0] I J := by
  unfold f_Model_place_b170 at h
  refine wp_ladd X dX11_place_170 ?_
  refine wp_topl (fun t171 et171 => ?_)
  have h := h t171 et171
  refine wp_lstore (L' := [(5, .long t171), (0, .ref (ad Γ 177)), (1, .int x1), (2, .long x2), (4, .int x4), (7, .int x7), (8, .int x8)]) X dX11_place_171 (by decide) rfl ?_
  obtain ⟨t173, et173⟩ : ∃ y : Int32, y = x8 + 1 := ⟨_, rfl⟩
  have h := h t173 et173
  refine wp_iinc (L' := [(8, .int t173), (5, .long t171), (0, .ref (ad Γ 177)), (1, .int x1), (2, .long x2), (4, .int x4), (7, .int x7)]) X dX11_place_173 6 rfl (ii_1 et173) (by decide) rfl ?_
  refine wp_goto (tgt := 94) X dX11_place_176 (by decide) ?_
  refine wp_sub X [2, 3, 4, 5, 1, 6, 0] rfl ?_
  exact hkh _ _ _ _ h

set_option maxRecDepth 100000 in
set_option maxHeartbeats 4000000 in
theorem w_Model_place_b169 {Γ : Ctx} {Q : Int64 → MI → MJ → Prop} {x1 : Int32} {x2 : Int64} {x4 : Int32} {x7 : Int32} {x8 : Int32} {s0 : Int64} {kh : Int64 → Int32 → MI → MJ → Prop} (X : Cx Γ cX11_place 10 RX11 4) (Y : Rt Γ (Pl Q) (Option.some Jvm.ClassFile.FieldType.long))  (hkh : ∀ (x5 : Int64) (x8 : Int32) (I : MI) (J : MJ), kh x5 x8 I J → Wp Γ 10 94 [(0, .ref (ad Γ 177)), (1, .int x1), (2, .long x2), (4, .int x4), (5, .long x5), (7, .int x7), (8, .int x8)] [] I J) {I : MI} {J : MJ} (h : f_Model_place_b169 x8 s0 kh I J) : Wp Γ 10 169 [(0, .ref (ad Γ 177)), (1, .int x1), (2, .long x2), (4, .int x4), (7, .int x7), (8, .int x8)] [.long s0] I J := by
  unfold f_Model_place_b169 at h
  refine wp_lconst X dX11_place_169 lc_0 ?_
  exact w_Model_place_b170 X Y hkh h

set_option maxRecDepth 100000 in
set_option maxHeartbeats 4000000 in
theorem w_Model_place_L94 {Γ : Ctx} {Q : Int64 → MI → MJ → Prop} {x1 : Int32} {x2 : Int64} {x4 : Int32} {x7 : Int32} {k179 : Int64 → MI → MJ → Prop} (X : Cx Γ cX11_place 10 RX11 4) (Y : Rt Γ (Pl Q) (Option.some Jvm.ClassFile.FieldType.long))  (hk179 : ∀ (x5 : Int64) (I : MI) (J : MJ), k179 x5 I J → Wp Γ 10 179 [(0, .ref (ad Γ 177)), (1, .int x1), (2, .long x2), (4, .int x4), (5, .long x5), (7, .int x7)] [] I J) : ∀ (n : Nat) (x5 : Int64) (x8 : Int32) (I : MI) (J : MJ), f_Model_place_L94 x1 x2 x4 x7 k179 n x5 x8 I J → Wp Γ 10 94 [(0, .ref (ad Γ 177)), (1, .int x1), (2, .long x2), (4, .int x4), (5, .long x5), (7, .int x7), (8, .int x8)] [] I J := by
  intro n
  induction n with
  | zero => intro x5 x8 I J h; exact absurd h (by simp [f_Model_place_L94])
  | succ n ih =>
  intro x5 x8 I J h
  unfold f_Model_place_L94 at h
  refine wp_iload X dX11_place_94 6 rfl ?_
  refine wp_lload_n X dX11_place_96 2 rfl ?_
  refine wp_iload X dX11_place_97 3 rfl ?_
  refine wp_iload X dX11_place_99 5 rfl ?_
  refine cs_Model_signOf X dX11_place_101 ml_X11_175  h (Nat.le_of_ble_eq_true rfl) (by decide) (fun r101 I101 J101 h => ?_)
  refine wp_icmp_ge (tgt := 179) X dX11_place_104 (by decide) (fun hc => ?_) (fun hc => ?_)
  · have h := ite_t h hc
    refine wp_sub X [0, 1, 2, 3, 4, 5] rfl ?_
    exact hk179 _ _ _ h
  · have h := ite_f h hc
    refine wp_aload_n X dX11_place_107 0 rfl ?_
    refine cv_Model_begin X dX11_place_108 ml_X11_183  h (Nat.le_of_ble_eq_true rfl) (by decide) (fun I108 J108 h => ?_)
    refine wp_aload_n X dX11_place_111 0 rfl ?_
    refine wp_iload_n X dX11_place_112 1 rfl ?_
    refine wp_lload_n X dX11_place_113 2 rfl ?_
    refine wp_iconst X dX11_place_114 ic_0 ?_
    refine wp_iload X dX11_place_115 5 rfl ?_
    refine cv_Model_goAll X dX11_place_117 ml_X11_186  h (Nat.le_of_ble_eq_true rfl) (by decide) (fun r117 I117 J117 h => ?_)
    refine wp_istore (L' := [(9, .int r117), (0, .ref (ad Γ 177)), (1, .int x1), (2, .long x2), (4, .int x4), (5, .long x5), (7, .int x7), (8, .int x8)]) X dX11_place_120 (by decide) rfl ?_
    refine wp_lload X dX11_place_122 5 rfl ?_
    refine wp_iload X dX11_place_124 0 rfl ?_
    refine wp_if_eq (tgt := 169) X dX11_place_126 (by decide) (fun hc => ?_) (fun hc => ?_)
    · have h := ite_t h hc
      refine wp_sub X [1, 2, 3, 4, 6, 7] rfl ?_
      exact w_Model_place_b169 X Y ih h
    · have h := ite_f h hc
      refine wp_aload_n X dX11_place_129 1 rfl ?_
      refine wp_iload_n X dX11_place_130 2 rfl ?_
      refine wp_iload X dX11_place_131 7 rfl ?_
      refine cv_Model_go X dX11_place_133 ml_X11_179  h (Nat.le_of_ble_eq_true rfl) (by decide) (fun r133 I133 J133 h => ?_)
      refine wp_if_eq (tgt := 169) X dX11_place_136 (by decide) (fun hc => ?_) (fun hc => ?_)
      · have h := ite_t h hc
        refine wp_sub X [1, 2, 3, 4, 6, 7] rfl ?_
        exact w_Model_place_b169 X Y ih h
      · have h := ite_f h hc
        refine wp_aload_n X dX11_place_139 1 rfl ?_
        refine gf_X11_78 (o' := 200) X sh_177 rfl dX11_place_140 ?_
        refine wp_bipush X dX11_place_143 bi_56 ?_
        refine wp_iload X dX11_place_145 4 rfl ?_
        refine wp_iconst X dX11_place_147 ic_1 ?_
        refine wp_isub X dX11_place_148 ?_
        refine wp_iload X dX11_place_149 6 rfl ?_
        refine wp_isub X dX11_place_151 ?_
        refine wp_imul X dX11_place_152 ?_
        refine wp_iconst X dX11_place_153 ic_4 ?_
        refine wp_aload_n X dX11_place_154 1 rfl ?_
        refine gf_X11_165 X sh_177 dX11_place_155 ?_
        refine wp_imul X dX11_place_158 ?_
        refine wp_iadd X dX11_place_159 ?_
        refine wp_aload_n X dX11_place_160 1 rfl ?_
        refine gf_X11_172 X sh_177 dX11_place_161 ?_
        refine wp_iadd X dX11_place_164 ?_
        obtain ⟨hb165, h⟩ := h
        refine wp_lald X sh_200 hb165 dX11_place_165 ?_
        refine wp_goto (tgt := 170) X dX11_place_166 (by decide) ?_
        refine wp_sub X [1, 2, 3, 4, 6, 7] rfl ?_
        exact w_Model_place_b170 X Y ih h

set_option maxRecDepth 100000 in
set_option maxHeartbeats 4000000 in
theorem w_Model_place_L84 {Γ : Ctx} {Q : Int64 → MI → MJ → Prop} {x1 : Int32} {x2 : Int64} {x4 : Int32} {k185 : Int64 → MI → MJ → Prop} (X : Cx Γ cX11_place 10 RX11 4) (Y : Rt Γ (Pl Q) (Option.some Jvm.ClassFile.FieldType.long))  (hk185 : ∀ (x5 : Int64) (I : MI) (J : MJ), k185 x5 I J → Wp Γ 10 185 [(5, .long x5)] [] I J) : ∀ (n : Nat) (x5 : Int64) (x7 : Int32) (I : MI) (J : MJ), f_Model_place_L84 x1 x2 x4 k185 n x5 x7 I J → Wp Γ 10 84 [(0, .ref (ad Γ 177)), (1, .int x1), (2, .long x2), (4, .int x4), (5, .long x5), (7, .int x7)] [] I J := by
  intro n
  induction n with
  | zero => intro x5 x7 I J h; exact absurd h (by simp [f_Model_place_L84])
  | succ n ih =>
  intro x5 x7 I J h
  unfold f_Model_place_L84 at h
  refine wp_iload X dX11_place_84 5 rfl ?_
  refine wp_iload X dX11_place_86 3 rfl ?_
  refine wp_icmp_ge (tgt := 185) X dX11_place_88 (by decide) (fun hc => ?_) (fun hc => ?_)
  · have h := ite_t h hc
    refine wp_sub X [4] rfl ?_
    exact hk185 _ _ _ h
  · have h := ite_f h hc
    refine wp_iconst X dX11_place_91 ic_0 ?_
    refine wp_istore (L' := [(8, .int 0), (0, .ref (ad Γ 177)), (1, .int x1), (2, .long x2), (4, .int x4), (5, .long x5), (7, .int x7)]) X dX11_place_92 (by decide) rfl ?_
    obtain ⟨n, h⟩ := h
    refine wp_sub X [1, 2, 3, 4, 5, 6, 0] rfl ?_
    refine w_Model_place_L94 X Y  ?_ n _ _ _ _ h
    · intro z179_x5 I J h
      obtain ⟨t179, et179⟩ : ∃ y : Int32, y = x7 + 1 := ⟨_, rfl⟩
      have h := h t179 et179
      refine wp_iinc (L' := [(7, .int t179), (0, .ref (ad Γ 177)), (1, .int x1), (2, .long x2), (4, .int x4), (5, .long z179_x5)]) X dX11_place_179 5 rfl (ii_1 et179) (by decide) rfl ?_
      refine wp_goto (tgt := 84) X dX11_place_182 (by decide) ?_
      refine wp_sub X [1, 2, 3, 4, 5, 0] rfl ?_
      exact ih _ _ _ _ h

set_option maxRecDepth 100000 in
set_option maxHeartbeats 4000000 in
theorem w_Model_place_L53 {Γ : Ctx} {Q : Int64 → MI → MJ → Prop} {x1 : Int32} {x2 : Int64} {x4 : Int32} {k81 : Int64 → MI → MJ → Prop} (X : Cx Γ cX11_place 10 RX11 4) (Y : Rt Γ (Pl Q) (Option.some Jvm.ClassFile.FieldType.long))  (hk81 : ∀ (x5 : Int64) (I : MI) (J : MJ), k81 x5 I J → Wp Γ 10 81 [(0, .ref (ad Γ 177)), (1, .int x1), (2, .long x2), (4, .int x4), (5, .long x5)] [] I J) : ∀ (n : Nat) (x5 : Int64) (x7 : Int32) (I : MI) (J : MJ), f_Model_place_L53 x4 k81 n x5 x7 I J → Wp Γ 10 53 [(0, .ref (ad Γ 177)), (1, .int x1), (2, .long x2), (4, .int x4), (5, .long x5), (7, .int x7)] [] I J := by
  intro n
  induction n with
  | zero => intro x5 x7 I J h; exact absurd h (by simp [f_Model_place_L53])
  | succ n ih =>
  intro x5 x7 I J h
  unfold f_Model_place_L53 at h
  refine wp_iload X dX11_place_53 5 rfl ?_
  refine wp_iload X dX11_place_55 3 rfl ?_
  refine wp_icmp_ge (tgt := 81) X dX11_place_57 (by decide) (fun hc => ?_) (fun hc => ?_)
  · have h := ite_t h hc
    refine wp_sub X [0, 1, 2, 3, 4] rfl ?_
    exact hk81 _ _ _ h
  · have h := ite_f h hc
    refine wp_lload X dX11_place_60 4 rfl ?_
    refine wp_aload_n X dX11_place_62 0 rfl ?_
    refine gf_X11_78 (o' := 200) X sh_177 rfl dX11_place_63 ?_
    refine wp_bipush X dX11_place_66 bi_56 ?_
    refine wp_iload X dX11_place_68 5 rfl ?_
    refine wp_imul X dX11_place_70 ?_
    obtain ⟨hb71, h⟩ := h
    refine wp_lald X sh_200 hb71 dX11_place_71 ?_
    refine wp_ladd X dX11_place_72 ?_
    refine wp_topl (fun t73 et73 => ?_)
    have h := h t73 et73
    refine wp_lstore (L' := [(5, .long t73), (0, .ref (ad Γ 177)), (1, .int x1), (2, .long x2), (4, .int x4), (7, .int x7)]) X dX11_place_73 (by decide) rfl ?_
    obtain ⟨t75, et75⟩ : ∃ y : Int32, y = x7 + 1 := ⟨_, rfl⟩
    have h := h t75 et75
    refine wp_iinc (L' := [(7, .int t75), (5, .long t73), (0, .ref (ad Γ 177)), (1, .int x1), (2, .long x2), (4, .int x4)]) X dX11_place_75 5 rfl (ii_1 et75) (by decide) rfl ?_
    refine wp_goto (tgt := 53) X dX11_place_78 (by decide) ?_
    refine wp_sub X [2, 3, 4, 5, 1, 0] rfl ?_
    exact ih _ _ _ _ h

set_option maxRecDepth 100000 in
set_option maxHeartbeats 4000000 in
theorem w_Model_place_b0 {Γ : Ctx} {Q : Int64 → MI → MJ → Prop} {x1 : Int32} {x2 : Int64}  (X : Cx Γ cX11_place 10 RX11 4) (Y : Rt Γ (Pl Q) (Option.some Jvm.ClassFile.FieldType.long))   {I : MI} {J : MJ} (h : f_Model_place x1 x2 I J Q) : Wp Γ 10 0 [(0, .ref (ad Γ 177)), (1, .int x1), (2, .long x2)] [] I J := by
  unfold f_Model_place at h
  refine wp_aload_n X dX11_place_0 0 rfl ?_
  refine wp_iload_n X dX11_place_1 1 rfl ?_
  refine cv_Model_isMachine X dX11_place_2 ml_X11_242  h (Nat.le_of_ble_eq_true rfl) (by decide) (fun r2 I2 J2 h => ?_)
  refine wp_if_eq (tgt := 26) X dX11_place_5 (by decide) (fun hc => ?_) (fun hc => ?_)
  · have h := ite_t h hc
    refine wp_ldc2 X kl_X11_261 dX11_place_26 ?_
    exact wp_lret X Y dX11_place_29 ⟨_, rfl, h⟩
  · have h := ite_f h hc
    refine wp_lload_n X dX11_place_8 2 rfl ?_
    refine cs_Model_isWord X dX11_place_9 ml_X11_245  h (Nat.le_of_ble_eq_true rfl) (by decide) (fun r9 I9 J9 h => ?_)
    refine wp_if_eq (tgt := 26) X dX11_place_12 (by decide) (fun hc => ?_) (fun hc => ?_)
    · have h := ite_t h hc
      refine wp_ldc2 X kl_X11_261 dX11_place_26 ?_
      exact wp_lret X Y dX11_place_29 ⟨_, rfl, h⟩
    · have h := ite_f h hc
      refine wp_aload_n X dX11_place_15 0 rfl ?_
      refine wp_iload_n X dX11_place_16 1 rfl ?_
      refine wp_lload_n X dX11_place_17 2 rfl ?_
      refine cv_Model_answerBy X dX11_place_18 ml_X11_253  h (Nat.le_of_ble_eq_true rfl) (by decide) (fun r18 I18 J18 h => ?_)
      refine wp_bipush X dX11_place_21 bi_8 ?_
      refine wp_icmp_ne (tgt := 30) X dX11_place_23 (by decide) (fun hc => ?_) (fun hc => ?_)
      · have h := ite_f h hc
        refine wp_aload_n X dX11_place_30 0 rfl ?_
        refine wp_iload_n X dX11_place_31 1 rfl ?_
        refine wp_aload_n X dX11_place_32 0 rfl ?_
        refine wp_iload_n X dX11_place_33 1 rfl ?_
        refine wp_lload_n X dX11_place_34 2 rfl ?_
        refine cv_Model_answerBy X dX11_place_35 ml_X11_253  h (Nat.le_of_ble_eq_true rfl) (by decide) (fun r35 I35 J35 h => ?_)
        refine cv_Model_findTails X dX11_place_38 ml_X11_263  h (Nat.le_of_ble_eq_true rfl) (by decide) (fun I38 J38 h => ?_)
        refine wp_lload_n X dX11_place_41 2 rfl ?_
        refine cs_Model_lengthOf X dX11_place_42 ml_X11_161  h (Nat.le_of_ble_eq_true rfl) (by decide) (fun r42 I42 J42 h => ?_)
        refine wp_istore (L' := [(4, .int r42), (0, .ref (ad Γ 177)), (1, .int x1), (2, .long x2)]) X dX11_place_45 (by decide) rfl ?_
        refine wp_lconst X dX11_place_47 lc_0 ?_
        refine wp_lstore (L' := [(5, .long 0), (4, .int r42), (0, .ref (ad Γ 177)), (1, .int x1), (2, .long x2)]) X dX11_place_48 (by decide) rfl ?_
        refine wp_iconst X dX11_place_50 ic_0 ?_
        refine wp_istore (L' := [(7, .int 0), (5, .long 0), (4, .int r42), (0, .ref (ad Γ 177)), (1, .int x1), (2, .long x2)]) X dX11_place_51 (by decide) rfl ?_
        obtain ⟨n, h⟩ := h
        refine wp_sub X [3, 4, 5, 2, 1, 0] rfl ?_
        refine w_Model_place_L53 X Y  ?_ n _ _ _ _ h
        · intro z81_x5 I J h
          refine wp_iconst X dX11_place_81 ic_0 ?_
          refine wp_istore (L' := [(7, .int 0), (0, .ref (ad Γ 177)), (1, .int x1), (2, .long x2), (4, .int r42), (5, .long z81_x5)]) X dX11_place_82 (by decide) rfl ?_
          obtain ⟨n, h⟩ := h
          refine wp_sub X [1, 2, 3, 4, 5, 0] rfl ?_
          refine w_Model_place_L84 X Y  ?_ n _ _ _ _ h
          · intro z185_x5 I J h
            refine wp_lload X dX11_place_185 0 rfl ?_
            exact wp_lret X Y dX11_place_187 ⟨_, rfl, h⟩
      · have h := ite_t h hc
        refine wp_ldc2 X kl_X11_261 dX11_place_26 ?_
        exact wp_lret X Y dX11_place_29 ⟨_, rfl, h⟩

theorem c_Model_place {l : Launch} {g : GE} (hg : Inj g) {I : MI} {J : MJ} {Q : Int64 → MI → MJ → Prop} {x1 : Int32} {x2 : Int64}  (h : f_Model_place x1 x2 I J Q) : Cm l g yX11_place cX11_place 10 (Option.some Jvm.ClassFile.FieldType.long) 4 [.ref (g.1 177), .int x1, .long x2] I J (Pl Q) := by
  refine Cm.of (As := fun ad => [.ref (ad 177), .int x1, .long x2]) hg pn_X11 (Nat.le_of_ble_eq_true rfl) ?_
  exact (fun Γ _ _ X Y => w_Model_place_b0 X Y  h)
theorem cv_Model_place {Γ : Ctx} {cc : ByteArray} {nL d pc index : Nat} {own : String} {L : List (Nat × Value)} {rest : List Value} {I : MI} {J : MJ} {Q : Int64 → MI → MJ → Prop} {x1 : Int32} {x2 : Int64} (X : Cx Γ cc nL own d) (hd : decode cc pc = .ok (.invokevirtual index, 3)) (hlink : Cond.methodLink own index yX11_place ∈ TT)  (h : f_Model_place x1 x2 I J Q) (hrest : (rest.map fun v => v.category).sum ≤ 8) (hdd : 4 + 1 ≤ d) (kk : ∀ (r : Int64) (I' : MI) (J' : MJ), Q r I' J' → Wp Γ nL (pc + 3) L (.long r :: rest) I' J') : Wp Γ nL pc L (.long x2 :: .int x1 :: .ref (ad Γ 177) :: rest) I J :=
  wp_callV (As := [.int x1, .long x2]) (rest := rest) (T := TX11) (N := 62) X hd hlink mv_X11_place sh_177 (by decide) rfl (c_Model_place X.inj  h) rfl rfl hrest hdd (fun v I' J' hv => by obtain ⟨r, rfl, hq⟩ := hv; exact kk r I' J' hq)
theorem dX11_saysOf_0 : decode cX11_saysOf 0 = .ok (.iload_n 2, 1) := by decide +kernel
theorem dX11_saysOf_1 : decode cX11_saysOf 1 = .ok (.ifCond .ge 8, 3) := by decide +kernel
theorem dX11_saysOf_4 : decode cX11_saysOf 4 = .ok (.bipush 8, 2) := by decide +kernel
theorem dX11_saysOf_6 : decode cX11_saysOf 6 = .ok (.goto 14, 3) := by decide +kernel
theorem dX11_saysOf_9 : decode cX11_saysOf 9 = .ok (.aload_n 0, 1) := by decide +kernel
theorem dX11_saysOf_10 : decode cX11_saysOf 10 = .ok (.getfield 39, 3) := by decide +kernel
theorem dX11_saysOf_13 : decode cX11_saysOf 13 = .ok (.bipush 14, 2) := by decide +kernel
theorem dX11_saysOf_15 : decode cX11_saysOf 15 = .ok (.iload_n 1, 1) := by decide +kernel
theorem dX11_saysOf_16 : decode cX11_saysOf 16 = .ok (.imul, 1) := by decide +kernel
theorem dX11_saysOf_17 : decode cX11_saysOf 17 = .ok (.iload_n 2, 1) := by decide +kernel
theorem dX11_saysOf_18 : decode cX11_saysOf 18 = .ok (.iadd, 1) := by decide +kernel
theorem dX11_saysOf_19 : decode cX11_saysOf 19 = .ok (.iaload, 1) := by decide +kernel
theorem dX11_saysOf_20 : decode cX11_saysOf 20 = .ok (.ireturn, 1) := by decide +kernel
def f_Model_saysOf (x1 : Int32) (x2 : Int32) (I : MI) (J : MJ) (Q : Int32 → MI → MJ → Prop) : Prop :=
  (if 0 ≤ x2 then vp_in ((14 * x1) + x2) 280 ∧ Q (I 187 ((14 * x1) + x2).toNatClampNeg) I J else Q 8 I J)
set_option maxRecDepth 100000 in
set_option maxHeartbeats 4000000 in
theorem w_Model_saysOf_b0 {Γ : Ctx} {Q : Int32 → MI → MJ → Prop} {x1 : Int32} {x2 : Int32}  (X : Cx Γ cX11_saysOf 3 RX11 0) (Y : Rt Γ (Pi Q) (Option.some Jvm.ClassFile.FieldType.int))   {I : MI} {J : MJ} (h : f_Model_saysOf x1 x2 I J Q) : Wp Γ 3 0 [(0, .ref (ad Γ 177)), (1, .int x1), (2, .int x2)] [] I J := by
  unfold f_Model_saysOf at h
  refine wp_iload_n X dX11_saysOf_0 2 rfl ?_
  refine wp_if_ge (tgt := 9) X dX11_saysOf_1 (by decide) (fun hc => ?_) (fun hc => ?_)
  · have h := ite_t h hc
    refine wp_aload_n X dX11_saysOf_9 0 rfl ?_
    refine gf_X11_39 (o' := 187) X sh_177 rfl dX11_saysOf_10 ?_
    refine wp_bipush X dX11_saysOf_13 bi_14 ?_
    refine wp_iload_n X dX11_saysOf_15 1 rfl ?_
    refine wp_imul X dX11_saysOf_16 ?_
    refine wp_iload_n X dX11_saysOf_17 2 rfl ?_
    refine wp_iadd X dX11_saysOf_18 ?_
    obtain ⟨hb19, h⟩ := h
    refine wp_iald X sh_187 hb19 dX11_saysOf_19 ?_
    exact wp_iret X Y dX11_saysOf_20 ⟨_, rfl, h⟩
  · have h := ite_f h hc
    refine wp_bipush X dX11_saysOf_4 bi_8 ?_
    refine wp_goto (tgt := 20) X dX11_saysOf_6 (by decide) ?_
    exact wp_iret X Y dX11_saysOf_20 ⟨_, rfl, h⟩

theorem c_Model_saysOf {l : Launch} {g : GE} (hg : Inj g) {I : MI} {J : MJ} {Q : Int32 → MI → MJ → Prop} {x1 : Int32} {x2 : Int32}  (h : f_Model_saysOf x1 x2 I J Q) : Cm l g yX11_saysOf cX11_saysOf 3 (Option.some Jvm.ClassFile.FieldType.int) 0 [.ref (g.1 177), .int x1, .int x2] I J (Pi Q) := by
  refine Cm.of (As := fun ad => [.ref (ad 177), .int x1, .int x2]) hg pn_X11 (Nat.le_of_ble_eq_true rfl) ?_
  exact (fun Γ _ _ X Y => w_Model_saysOf_b0 X Y  h)
theorem cv_Model_saysOf {Γ : Ctx} {cc : ByteArray} {nL d pc index : Nat} {own : String} {L : List (Nat × Value)} {rest : List Value} {I : MI} {J : MJ} {Q : Int32 → MI → MJ → Prop} {x1 : Int32} {x2 : Int32} (X : Cx Γ cc nL own d) (hd : decode cc pc = .ok (.invokevirtual index, 3)) (hlink : Cond.methodLink own index yX11_saysOf ∈ TT)  (h : f_Model_saysOf x1 x2 I J Q) (hrest : (rest.map fun v => v.category).sum ≤ 8) (hdd : 0 + 1 ≤ d) (kk : ∀ (r : Int32) (I' : MI) (J' : MJ), Q r I' J' → Wp Γ nL (pc + 3) L (.int r :: rest) I' J') : Wp Γ nL pc L (.int x2 :: .int x1 :: .ref (ad Γ 177) :: rest) I J :=
  wp_callV (As := [.int x1, .int x2]) (rest := rest) (T := TX11) (N := 62) X hd hlink mv_X11_saysOf sh_177 (by decide) rfl (c_Model_saysOf X.inj  h) rfl rfl hrest hdd (fun v I' J' hv => by obtain ⟨r, rfl, hq⟩ := hv; exact kk r I' J' hq)
theorem dX11_leadsOf_0 : decode cX11_leadsOf 0 = .ok (.iload_n 2, 1) := by decide +kernel
theorem dX11_leadsOf_1 : decode cX11_leadsOf 1 = .ok (.ifCond .lt 13, 3) := by decide +kernel
theorem dX11_leadsOf_4 : decode cX11_leadsOf 4 = .ok (.aload_n 0, 1) := by decide +kernel
theorem dX11_leadsOf_5 : decode cX11_leadsOf 5 = .ok (.iload_n 1, 1) := by decide +kernel
theorem dX11_leadsOf_6 : decode cX11_leadsOf 6 = .ok (.iload_n 2, 1) := by decide +kernel
theorem dX11_leadsOf_7 : decode cX11_leadsOf 7 = .ok (.iload_n 3, 1) := by decide +kernel
theorem dX11_leadsOf_8 : decode cX11_leadsOf 8 = .ok (.invokevirtual 168, 3) := by decide +kernel
theorem dX11_leadsOf_11 : decode cX11_leadsOf 11 = .ok (.ifCond .ne 7, 3) := by decide +kernel
theorem dX11_leadsOf_14 : decode cX11_leadsOf 14 = .ok (.iconst (-1), 1) := by decide +kernel
theorem dX11_leadsOf_15 : decode cX11_leadsOf 15 = .ok (.goto 14, 3) := by decide +kernel
theorem dX11_leadsOf_18 : decode cX11_leadsOf 18 = .ok (.aload_n 0, 1) := by decide +kernel
theorem dX11_leadsOf_19 : decode cX11_leadsOf 19 = .ok (.getfield 45, 3) := by decide +kernel
theorem dX11_leadsOf_22 : decode cX11_leadsOf 22 = .ok (.iload_n 1, 1) := by decide +kernel
theorem dX11_leadsOf_23 : decode cX11_leadsOf 23 = .ok (.iload_n 2, 1) := by decide +kernel
theorem dX11_leadsOf_24 : decode cX11_leadsOf 24 = .ok (.iload_n 3, 1) := by decide +kernel
theorem dX11_leadsOf_25 : decode cX11_leadsOf 25 = .ok (.invokestatic 149, 3) := by decide +kernel
theorem dX11_leadsOf_28 : decode cX11_leadsOf 28 = .ok (.iaload, 1) := by decide +kernel
theorem dX11_leadsOf_29 : decode cX11_leadsOf 29 = .ok (.ireturn, 1) := by decide +kernel
def f_Model_leadsOf_b14  (Q : Int32 → MI → MJ → Prop) (I : MI) (J : MJ) : Prop :=
  Q (-1) I J
def f_Model_leadsOf (x1 : Int32) (x2 : Int32) (x3 : Int32) (I : MI) (J : MJ) (Q : Int32 → MI → MJ → Prop) : Prop :=
  (if x2 < 0 then f_Model_leadsOf_b14 Q I J else f_Model_hasTake x1 x2 x3 I J (fun r8 I8 J8 => (if r8 = 0 then f_Model_leadsOf_b14 Q I8 J8 else f_Model_spot x1 x2 x3 I8 J8 (fun r25 I25 J25 => vp_in r25 1120 ∧ Q (I25 189 r25.toNatClampNeg) I25 J25))))
set_option maxRecDepth 100000 in
set_option maxHeartbeats 4000000 in
theorem w_Model_leadsOf_b14 {Γ : Ctx} {Q : Int32 → MI → MJ → Prop}   (X : Cx Γ cX11_leadsOf 4 RX11 1) (Y : Rt Γ (Pi Q) (Option.some Jvm.ClassFile.FieldType.int))   {I : MI} {J : MJ} (h : f_Model_leadsOf_b14 Q I J) : Wp Γ 4 14 [] [] I J := by
  unfold f_Model_leadsOf_b14 at h
  refine wp_iconst X dX11_leadsOf_14 ic_m1 ?_
  refine wp_goto (tgt := 29) X dX11_leadsOf_15 (by decide) ?_
  exact wp_iret X Y dX11_leadsOf_29 ⟨_, rfl, h⟩

set_option maxRecDepth 100000 in
set_option maxHeartbeats 4000000 in
theorem w_Model_leadsOf_b0 {Γ : Ctx} {Q : Int32 → MI → MJ → Prop} {x1 : Int32} {x2 : Int32} {x3 : Int32}  (X : Cx Γ cX11_leadsOf 4 RX11 1) (Y : Rt Γ (Pi Q) (Option.some Jvm.ClassFile.FieldType.int))   {I : MI} {J : MJ} (h : f_Model_leadsOf x1 x2 x3 I J Q) : Wp Γ 4 0 [(0, .ref (ad Γ 177)), (1, .int x1), (2, .int x2), (3, .int x3)] [] I J := by
  unfold f_Model_leadsOf at h
  refine wp_iload_n X dX11_leadsOf_0 2 rfl ?_
  refine wp_if_lt (tgt := 14) X dX11_leadsOf_1 (by decide) (fun hc => ?_) (fun hc => ?_)
  · have h := ite_t h hc
    refine wp_sub X [] rfl ?_
    exact w_Model_leadsOf_b14 X Y  h
  · have h := ite_f h hc
    refine wp_aload_n X dX11_leadsOf_4 0 rfl ?_
    refine wp_iload_n X dX11_leadsOf_5 1 rfl ?_
    refine wp_iload_n X dX11_leadsOf_6 2 rfl ?_
    refine wp_iload_n X dX11_leadsOf_7 3 rfl ?_
    refine cv_Model_hasTake X dX11_leadsOf_8 ml_X11_168  h (Nat.le_of_ble_eq_true rfl) (by decide) (fun r8 I8 J8 h => ?_)
    refine wp_if_ne (tgt := 18) X dX11_leadsOf_11 (by decide) (fun hc => ?_) (fun hc => ?_)
    · have h := ite_f h hc
      refine wp_aload_n X dX11_leadsOf_18 0 rfl ?_
      refine gf_X11_45 (o' := 189) X sh_177 rfl dX11_leadsOf_19 ?_
      refine wp_iload_n X dX11_leadsOf_22 1 rfl ?_
      refine wp_iload_n X dX11_leadsOf_23 2 rfl ?_
      refine wp_iload_n X dX11_leadsOf_24 3 rfl ?_
      refine cs_Model_spot X dX11_leadsOf_25 ml_X11_149  h (Nat.le_of_ble_eq_true rfl) (by decide) (fun r25 I25 J25 h => ?_)
      obtain ⟨hb28, h⟩ := h
      refine wp_iald X sh_189 hb28 dX11_leadsOf_28 ?_
      exact wp_iret X Y dX11_leadsOf_29 ⟨_, rfl, h⟩
    · have h := ite_t h hc
      refine wp_sub X [] rfl ?_
      exact w_Model_leadsOf_b14 X Y  h

theorem c_Model_leadsOf {l : Launch} {g : GE} (hg : Inj g) {I : MI} {J : MJ} {Q : Int32 → MI → MJ → Prop} {x1 : Int32} {x2 : Int32} {x3 : Int32}  (h : f_Model_leadsOf x1 x2 x3 I J Q) : Cm l g yX11_leadsOf cX11_leadsOf 4 (Option.some Jvm.ClassFile.FieldType.int) 1 [.ref (g.1 177), .int x1, .int x2, .int x3] I J (Pi Q) := by
  refine Cm.of (As := fun ad => [.ref (ad 177), .int x1, .int x2, .int x3]) hg pn_X11 (Nat.le_of_ble_eq_true rfl) ?_
  exact (fun Γ _ _ X Y => w_Model_leadsOf_b0 X Y  h)
theorem cv_Model_leadsOf {Γ : Ctx} {cc : ByteArray} {nL d pc index : Nat} {own : String} {L : List (Nat × Value)} {rest : List Value} {I : MI} {J : MJ} {Q : Int32 → MI → MJ → Prop} {x1 : Int32} {x2 : Int32} {x3 : Int32} (X : Cx Γ cc nL own d) (hd : decode cc pc = .ok (.invokevirtual index, 3)) (hlink : Cond.methodLink own index yX11_leadsOf ∈ TT)  (h : f_Model_leadsOf x1 x2 x3 I J Q) (hrest : (rest.map fun v => v.category).sum ≤ 8) (hdd : 1 + 1 ≤ d) (kk : ∀ (r : Int32) (I' : MI) (J' : MJ), Q r I' J' → Wp Γ nL (pc + 3) L (.int r :: rest) I' J') : Wp Γ nL pc L (.int x3 :: .int x2 :: .int x1 :: .ref (ad Γ 177) :: rest) I J :=
  wp_callV (As := [.int x1, .int x2, .int x3]) (rest := rest) (T := TX11) (N := 62) X hd hlink mv_X11_leadsOf sh_177 (by decide) rfl (c_Model_leadsOf X.inj  h) rfl rfl hrest hdd (fun v I' J' hv => by obtain ⟨r, rfl, hq⟩ := hv; exact kk r I' J' hq)
theorem dX11_difference_0 : decode cX11_difference 0 = .ok (.iconst 0, 1) := by decide +kernel
theorem dX11_difference_1 : decode cX11_difference 1 = .ok (.istore 5, 2) := by decide +kernel
theorem dX11_difference_3 : decode cX11_difference 3 = .ok (.iload 5, 2) := by decide +kernel
theorem dX11_difference_5 : decode cX11_difference 5 = .ok (.sipush 256, 3) := by decide +kernel
theorem dX11_difference_8 : decode cX11_difference 8 = .ok (.if_icmp .ge 17, 3) := by decide +kernel
theorem dX11_difference_11 : decode cX11_difference 11 = .ok (.aload_n 0, 1) := by decide +kernel
theorem dX11_difference_12 : decode cX11_difference 12 = .ok (.getfield 90, 3) := by decide +kernel
theorem dX11_difference_15 : decode cX11_difference 15 = .ok (.iload 5, 2) := by decide +kernel
theorem dX11_difference_17 : decode cX11_difference 17 = .ok (.iconst 0, 1) := by decide +kernel
theorem dX11_difference_18 : decode cX11_difference 18 = .ok (.bastore, 1) := by decide +kernel
theorem dX11_difference_19 : decode cX11_difference 19 = .ok (.iinc 5 1, 3) := by decide +kernel
theorem dX11_difference_22 : decode cX11_difference 22 = .ok (.goto (-19), 3) := by decide +kernel
theorem dX11_difference_25 : decode cX11_difference 25 = .ok (.aload_n 0, 1) := by decide +kernel
theorem dX11_difference_26 : decode cX11_difference 26 = .ok (.getfield 81, 3) := by decide +kernel
theorem dX11_difference_29 : decode cX11_difference 29 = .ok (.iconst 0, 1) := by decide +kernel
theorem dX11_difference_30 : decode cX11_difference 30 = .ok (.iload_n 2, 1) := by decide +kernel
theorem dX11_difference_31 : decode cX11_difference 31 = .ok (.iastore, 1) := by decide +kernel
theorem dX11_difference_32 : decode cX11_difference 32 = .ok (.aload_n 0, 1) := by decide +kernel
theorem dX11_difference_33 : decode cX11_difference 33 = .ok (.getfield 84, 3) := by decide +kernel
theorem dX11_difference_36 : decode cX11_difference 36 = .ok (.iconst 0, 1) := by decide +kernel
theorem dX11_difference_37 : decode cX11_difference 37 = .ok (.iload 4, 2) := by decide +kernel
theorem dX11_difference_39 : decode cX11_difference 39 = .ok (.iastore, 1) := by decide +kernel
theorem dX11_difference_40 : decode cX11_difference 40 = .ok (.aload_n 0, 1) := by decide +kernel
theorem dX11_difference_41 : decode cX11_difference 41 = .ok (.getfield 87, 3) := by decide +kernel
theorem dX11_difference_44 : decode cX11_difference 44 = .ok (.iconst 0, 1) := by decide +kernel
theorem dX11_difference_45 : decode cX11_difference 45 = .ok (.lconst 1, 1) := by decide +kernel
theorem dX11_difference_46 : decode cX11_difference 46 = .ok (.lastore, 1) := by decide +kernel
theorem dX11_difference_47 : decode cX11_difference 47 = .ok (.aload_n 0, 1) := by decide +kernel
theorem dX11_difference_48 : decode cX11_difference 48 = .ok (.getfield 90, 3) := by decide +kernel
theorem dX11_difference_51 : decode cX11_difference 51 = .ok (.bipush 16, 2) := by decide +kernel
theorem dX11_difference_53 : decode cX11_difference 53 = .ok (.iload_n 2, 1) := by decide +kernel
theorem dX11_difference_54 : decode cX11_difference 54 = .ok (.iconst 1, 1) := by decide +kernel
theorem dX11_difference_55 : decode cX11_difference 55 = .ok (.iadd, 1) := by decide +kernel
theorem dX11_difference_56 : decode cX11_difference 56 = .ok (.imul, 1) := by decide +kernel
theorem dX11_difference_57 : decode cX11_difference 57 = .ok (.iload 4, 2) := by decide +kernel
theorem dX11_difference_59 : decode cX11_difference 59 = .ok (.iadd, 1) := by decide +kernel
theorem dX11_difference_60 : decode cX11_difference 60 = .ok (.iconst 1, 1) := by decide +kernel
theorem dX11_difference_61 : decode cX11_difference 61 = .ok (.iadd, 1) := by decide +kernel
theorem dX11_difference_62 : decode cX11_difference 62 = .ok (.iconst 1, 1) := by decide +kernel
theorem dX11_difference_63 : decode cX11_difference 63 = .ok (.bastore, 1) := by decide +kernel
theorem dX11_difference_64 : decode cX11_difference 64 = .ok (.iconst 1, 1) := by decide +kernel
theorem dX11_difference_65 : decode cX11_difference 65 = .ok (.istore 5, 2) := by decide +kernel
theorem dX11_difference_67 : decode cX11_difference 67 = .ok (.iconst 0, 1) := by decide +kernel
theorem dX11_difference_68 : decode cX11_difference 68 = .ok (.istore 6, 2) := by decide +kernel
theorem dX11_difference_70 : decode cX11_difference 70 = .ok (.iload 6, 2) := by decide +kernel
theorem dX11_difference_72 : decode cX11_difference 72 = .ok (.iload 5, 2) := by decide +kernel
theorem dX11_difference_74 : decode cX11_difference 74 = .ok (.if_icmp .ge 172, 3) := by decide +kernel
theorem dX11_difference_77 : decode cX11_difference 77 = .ok (.aload_n 0, 1) := by decide +kernel
theorem dX11_difference_78 : decode cX11_difference 78 = .ok (.iload_n 1, 1) := by decide +kernel
theorem dX11_difference_79 : decode cX11_difference 79 = .ok (.aload_n 0, 1) := by decide +kernel
theorem dX11_difference_80 : decode cX11_difference 80 = .ok (.getfield 81, 3) := by decide +kernel
theorem dX11_difference_83 : decode cX11_difference 83 = .ok (.iload 6, 2) := by decide +kernel
theorem dX11_difference_85 : decode cX11_difference 85 = .ok (.iaload, 1) := by decide +kernel
theorem dX11_difference_86 : decode cX11_difference 86 = .ok (.invokevirtual 270, 3) := by decide +kernel
theorem dX11_difference_89 : decode cX11_difference 89 = .ok (.aload_n 0, 1) := by decide +kernel
theorem dX11_difference_90 : decode cX11_difference 90 = .ok (.iload_n 3, 1) := by decide +kernel
theorem dX11_difference_91 : decode cX11_difference 91 = .ok (.aload_n 0, 1) := by decide +kernel
theorem dX11_difference_92 : decode cX11_difference 92 = .ok (.getfield 84, 3) := by decide +kernel
theorem dX11_difference_95 : decode cX11_difference 95 = .ok (.iload 6, 2) := by decide +kernel
theorem dX11_difference_97 : decode cX11_difference 97 = .ok (.iaload, 1) := by decide +kernel
theorem dX11_difference_98 : decode cX11_difference 98 = .ok (.invokevirtual 270, 3) := by decide +kernel
theorem dX11_difference_101 : decode cX11_difference 101 = .ok (.if_icmp .eq 11, 3) := by decide +kernel
theorem dX11_difference_104 : decode cX11_difference 104 = .ok (.aload_n 0, 1) := by decide +kernel
theorem dX11_difference_105 : decode cX11_difference 105 = .ok (.getfield 87, 3) := by decide +kernel
theorem dX11_difference_108 : decode cX11_difference 108 = .ok (.iload 6, 2) := by decide +kernel
theorem dX11_difference_110 : decode cX11_difference 110 = .ok (.laload, 1) := by decide +kernel
theorem dX11_difference_111 : decode cX11_difference 111 = .ok (.lreturn, 1) := by decide +kernel
theorem dX11_difference_112 : decode cX11_difference 112 = .ok (.iconst 0, 1) := by decide +kernel
theorem dX11_difference_113 : decode cX11_difference 113 = .ok (.istore 7, 2) := by decide +kernel
theorem dX11_difference_115 : decode cX11_difference 115 = .ok (.iload 7, 2) := by decide +kernel
theorem dX11_difference_117 : decode cX11_difference 117 = .ok (.iconst 4, 1) := by decide +kernel
theorem dX11_difference_118 : decode cX11_difference 118 = .ok (.if_icmp .ge 122, 3) := by decide +kernel
theorem dX11_difference_121 : decode cX11_difference 121 = .ok (.aload_n 0, 1) := by decide +kernel
theorem dX11_difference_122 : decode cX11_difference 122 = .ok (.iload_n 1, 1) := by decide +kernel
theorem dX11_difference_123 : decode cX11_difference 123 = .ok (.aload_n 0, 1) := by decide +kernel
theorem dX11_difference_124 : decode cX11_difference 124 = .ok (.getfield 81, 3) := by decide +kernel
theorem dX11_difference_127 : decode cX11_difference 127 = .ok (.iload 6, 2) := by decide +kernel
theorem dX11_difference_129 : decode cX11_difference 129 = .ok (.iaload, 1) := by decide +kernel
theorem dX11_difference_130 : decode cX11_difference 130 = .ok (.iload 7, 2) := by decide +kernel
theorem dX11_difference_132 : decode cX11_difference 132 = .ok (.invokevirtual 273, 3) := by decide +kernel
theorem dX11_difference_135 : decode cX11_difference 135 = .ok (.istore 8, 2) := by decide +kernel
theorem dX11_difference_137 : decode cX11_difference 137 = .ok (.aload_n 0, 1) := by decide +kernel
theorem dX11_difference_138 : decode cX11_difference 138 = .ok (.iload_n 3, 1) := by decide +kernel
theorem dX11_difference_139 : decode cX11_difference 139 = .ok (.aload_n 0, 1) := by decide +kernel
theorem dX11_difference_140 : decode cX11_difference 140 = .ok (.getfield 84, 3) := by decide +kernel
theorem dX11_difference_143 : decode cX11_difference 143 = .ok (.iload 6, 2) := by decide +kernel
theorem dX11_difference_145 : decode cX11_difference 145 = .ok (.iaload, 1) := by decide +kernel
theorem dX11_difference_146 : decode cX11_difference 146 = .ok (.iload 7, 2) := by decide +kernel
theorem dX11_difference_148 : decode cX11_difference 148 = .ok (.invokevirtual 273, 3) := by decide +kernel
theorem dX11_difference_151 : decode cX11_difference 151 = .ok (.istore 9, 2) := by decide +kernel
theorem dX11_difference_153 : decode cX11_difference 153 = .ok (.aload_n 0, 1) := by decide +kernel
theorem dX11_difference_154 : decode cX11_difference 154 = .ok (.getfield 90, 3) := by decide +kernel
theorem dX11_difference_157 : decode cX11_difference 157 = .ok (.bipush 16, 2) := by decide +kernel
theorem dX11_difference_159 : decode cX11_difference 159 = .ok (.iload 8, 2) := by decide +kernel
theorem dX11_difference_161 : decode cX11_difference 161 = .ok (.iconst 1, 1) := by decide +kernel
theorem dX11_difference_162 : decode cX11_difference 162 = .ok (.iadd, 1) := by decide +kernel
theorem dX11_difference_163 : decode cX11_difference 163 = .ok (.imul, 1) := by decide +kernel
theorem dX11_difference_164 : decode cX11_difference 164 = .ok (.iload 9, 2) := by decide +kernel
theorem dX11_difference_166 : decode cX11_difference 166 = .ok (.iadd, 1) := by decide +kernel
theorem dX11_difference_167 : decode cX11_difference 167 = .ok (.iconst 1, 1) := by decide +kernel
theorem dX11_difference_168 : decode cX11_difference 168 = .ok (.iadd, 1) := by decide +kernel
theorem dX11_difference_169 : decode cX11_difference 169 = .ok (.baload, 1) := by decide +kernel
theorem dX11_difference_170 : decode cX11_difference 170 = .ok (.ifCond .ne 64, 3) := by decide +kernel
theorem dX11_difference_173 : decode cX11_difference 173 = .ok (.aload_n 0, 1) := by decide +kernel
theorem dX11_difference_174 : decode cX11_difference 174 = .ok (.getfield 90, 3) := by decide +kernel
theorem dX11_difference_177 : decode cX11_difference 177 = .ok (.bipush 16, 2) := by decide +kernel
theorem dX11_difference_179 : decode cX11_difference 179 = .ok (.iload 8, 2) := by decide +kernel
theorem dX11_difference_181 : decode cX11_difference 181 = .ok (.iconst 1, 1) := by decide +kernel
theorem dX11_difference_182 : decode cX11_difference 182 = .ok (.iadd, 1) := by decide +kernel
theorem dX11_difference_183 : decode cX11_difference 183 = .ok (.imul, 1) := by decide +kernel
theorem dX11_difference_184 : decode cX11_difference 184 = .ok (.iload 9, 2) := by decide +kernel
theorem dX11_difference_186 : decode cX11_difference 186 = .ok (.iadd, 1) := by decide +kernel
theorem dX11_difference_187 : decode cX11_difference 187 = .ok (.iconst 1, 1) := by decide +kernel
theorem dX11_difference_188 : decode cX11_difference 188 = .ok (.iadd, 1) := by decide +kernel
theorem dX11_difference_189 : decode cX11_difference 189 = .ok (.iconst 1, 1) := by decide +kernel
theorem dX11_difference_190 : decode cX11_difference 190 = .ok (.bastore, 1) := by decide +kernel
theorem dX11_difference_191 : decode cX11_difference 191 = .ok (.aload_n 0, 1) := by decide +kernel
theorem dX11_difference_192 : decode cX11_difference 192 = .ok (.getfield 81, 3) := by decide +kernel
theorem dX11_difference_195 : decode cX11_difference 195 = .ok (.iload 5, 2) := by decide +kernel
theorem dX11_difference_197 : decode cX11_difference 197 = .ok (.iload 8, 2) := by decide +kernel
theorem dX11_difference_199 : decode cX11_difference 199 = .ok (.iastore, 1) := by decide +kernel
theorem dX11_difference_200 : decode cX11_difference 200 = .ok (.aload_n 0, 1) := by decide +kernel
theorem dX11_difference_201 : decode cX11_difference 201 = .ok (.getfield 84, 3) := by decide +kernel
theorem dX11_difference_204 : decode cX11_difference 204 = .ok (.iload 5, 2) := by decide +kernel
theorem dX11_difference_206 : decode cX11_difference 206 = .ok (.iload 9, 2) := by decide +kernel
theorem dX11_difference_208 : decode cX11_difference 208 = .ok (.iastore, 1) := by decide +kernel
theorem dX11_difference_209 : decode cX11_difference 209 = .ok (.aload_n 0, 1) := by decide +kernel
theorem dX11_difference_210 : decode cX11_difference 210 = .ok (.getfield 87, 3) := by decide +kernel
theorem dX11_difference_213 : decode cX11_difference 213 = .ok (.iload 5, 2) := by decide +kernel
theorem dX11_difference_215 : decode cX11_difference 215 = .ok (.ldc2_w 197, 3) := by decide +kernel
theorem dX11_difference_218 : decode cX11_difference 218 = .ok (.aload_n 0, 1) := by decide +kernel
theorem dX11_difference_219 : decode cX11_difference 219 = .ok (.getfield 87, 3) := by decide +kernel
theorem dX11_difference_222 : decode cX11_difference 222 = .ok (.iload 6, 2) := by decide +kernel
theorem dX11_difference_224 : decode cX11_difference 224 = .ok (.laload, 1) := by decide +kernel
theorem dX11_difference_225 : decode cX11_difference 225 = .ok (.lmul, 1) := by decide +kernel
theorem dX11_difference_226 : decode cX11_difference 226 = .ok (.iload 7, 2) := by decide +kernel
theorem dX11_difference_228 : decode cX11_difference 228 = .ok (.i2l, 1) := by decide +kernel
theorem dX11_difference_229 : decode cX11_difference 229 = .ok (.ladd, 1) := by decide +kernel
theorem dX11_difference_230 : decode cX11_difference 230 = .ok (.lastore, 1) := by decide +kernel
theorem dX11_difference_231 : decode cX11_difference 231 = .ok (.iinc 5 1, 3) := by decide +kernel
theorem dX11_difference_234 : decode cX11_difference 234 = .ok (.iinc 7 1, 3) := by decide +kernel
theorem dX11_difference_237 : decode cX11_difference 237 = .ok (.goto (-122), 3) := by decide +kernel
theorem dX11_difference_240 : decode cX11_difference 240 = .ok (.iinc 6 1, 3) := by decide +kernel
theorem dX11_difference_243 : decode cX11_difference 243 = .ok (.goto (-173), 3) := by decide +kernel
theorem dX11_difference_246 : decode cX11_difference 246 = .ok (.lconst 0, 1) := by decide +kernel
theorem dX11_difference_247 : decode cX11_difference 247 = .ok (.lreturn, 1) := by decide +kernel
def f_Model_difference_b234 (x5 : Int32) (x7 : Int32) (kh : Int32 → Int32 → MI → MJ → Prop) (I : MI) (J : MJ) : Prop :=
  ∀ t234 : Int32, t234 = x7 + 1 → kh x5 t234 I J
def f_Model_difference_L115 (x1 : Int32) (x3 : Int32) (x6 : Int32) (k240 : Int32 → MI → MJ → Prop) : Nat → Int32 → Int32 → MI → MJ → Prop
  | 0, _, _, _, _ => False
  | nf115 + 1, x5, x7, I, J =>
  (if 4 ≤ x7 then k240 x5 I J else vp_in x6 256 ∧ f_Model_leadsOf x1 (I 201 x6.toNatClampNeg) x7 I J (fun r132 I132 J132 => vp_in x6 256 ∧ f_Model_leadsOf x3 (I132 202 x6.toNatClampNeg) x7 I132 J132 (fun r148 I148 J148 => vp_in (((16 * (r132 + 1)) + r148) + 1) 256 ∧ (if (I148 204 (((16 * (r132 + 1)) + r148) + 1).toNatClampNeg) = 0 then vp_in (((16 * (r132 + 1)) + r148) + 1) 256 ∧ ∀ I190 : MI, I190 = sI I148 204 (upd (I148 204) (((16 * (r132 + 1)) + r148) + 1).toNatClampNeg (vp_nar .boolean 1)) → vp_in x5 256 ∧ ∀ I199 : MI, I199 = sI I190 201 (upd (I190 201) x5.toNatClampNeg r132) → vp_in x5 256 ∧ ∀ I208 : MI, I208 = sI I199 202 (upd (I199 202) x5.toNatClampNeg r148) → vp_in x6 256 ∧ vp_in x5 256 ∧ ∀ J230 : MJ, J230 = sJ J148 203 (vp_updL (J148 203) x5.toNatClampNeg ((4 * (J148 203 x6.toNatClampNeg)) + x7.toInt64)) → ∀ t231 : Int32, t231 = x5 + 1 → f_Model_difference_b234 t231 x7 (f_Model_difference_L115 x1 x3 x6 k240 nf115) I208 J230 else f_Model_difference_b234 x5 x7 (f_Model_difference_L115 x1 x3 x6 k240 nf115) I148 J148))))
def f_Model_difference_L70 (x1 : Int32) (x3 : Int32) (k104 : Int32 → MI → MJ → Prop) (k246 : MI → MJ → Prop) : Nat → Int32 → Int32 → MI → MJ → Prop
  | 0, _, _, _, _ => False
  | nf70 + 1, x5, x6, I, J =>
  (if x5 ≤ x6 then k246 I J else vp_in x6 256 ∧ f_Model_saysOf x1 (I 201 x6.toNatClampNeg) I J (fun r86 I86 J86 => vp_in x6 256 ∧ f_Model_saysOf x3 (I86 202 x6.toNatClampNeg) I86 J86 (fun r98 I98 J98 => (if r86 = r98 then ∃ n, f_Model_difference_L115 x1 x3 x6 (fun (z240_x5 : Int32) (I : MI) (J : MJ) => ∀ t240 : Int32, t240 = x6 + 1 → f_Model_difference_L70 x1 x3 k104 k246 nf70 z240_x5 t240 I J) n x5 0 I98 J98 else k104 x6 I98 J98))))
def f_Model_difference_L3 (k25 : MI → MJ → Prop) : Nat → Int32 → MI → MJ → Prop
  | 0, _, _, _ => False
  | nf3 + 1, x5, I, J =>
  (if 256 ≤ x5 then k25 I J else vp_in x5 256 ∧ ∀ I18 : MI, I18 = sI I 204 (upd (I 204) x5.toNatClampNeg (vp_nar .boolean 0)) → ∀ t19 : Int32, t19 = x5 + 1 → f_Model_difference_L3 k25 nf3 t19 I18 J)
def f_Model_difference (x1 : Int32) (x2 : Int32) (x3 : Int32) (x4 : Int32) (I : MI) (J : MJ) (Q : Int64 → MI → MJ → Prop) : Prop :=
  ∃ n, f_Model_difference_L3 (fun (I : MI) (J : MJ) => vp_in 0 256 ∧ ∀ I31 : MI, I31 = sI I 201 (upd (I 201) (0 : Int32).toNatClampNeg x2) → vp_in 0 256 ∧ ∀ I39 : MI, I39 = sI I31 202 (upd (I31 202) (0 : Int32).toNatClampNeg x4) → vp_in 0 256 ∧ ∀ J46 : MJ, J46 = sJ J 203 (vp_updL (J 203) (0 : Int32).toNatClampNeg 1) → vp_in (((16 * (x2 + 1)) + x4) + 1) 256 ∧ ∀ I63 : MI, I63 = sI I39 204 (upd (I39 204) (((16 * (x2 + 1)) + x4) + 1).toNatClampNeg (vp_nar .boolean 1)) → ∃ n, f_Model_difference_L70 x1 x3 (fun (z104_x6 : Int32) (I : MI) (J : MJ) => vp_in z104_x6 256 ∧ Q (J 203 z104_x6.toNatClampNeg) I J) (fun (I : MI) (J : MJ) => Q 0 I J) n 1 0 I63 J46) n 0 I J
set_option maxRecDepth 100000 in
set_option maxHeartbeats 4000000 in
theorem w_Model_difference_b234 {Γ : Ctx} {Q : Int64 → MI → MJ → Prop} {x1 : Int32} {x3 : Int32} {x5 : Int32} {x6 : Int32} {x7 : Int32} {kh : Int32 → Int32 → MI → MJ → Prop} (X : Cx Γ cX11_difference 10 RX11 2) (Y : Rt Γ (Pl Q) (Option.some Jvm.ClassFile.FieldType.long))  (hkh : ∀ (x5 : Int32) (x7 : Int32) (I : MI) (J : MJ), kh x5 x7 I J → Wp Γ 10 115 [(0, .ref (ad Γ 177)), (1, .int x1), (3, .int x3), (5, .int x5), (6, .int x6), (7, .int x7)] [] I J) {I : MI} {J : MJ} (h : f_Model_difference_b234 x5 x7 kh I J) : Wp Γ 10 234 [(0, .ref (ad Γ 177)), (1, .int x1), (3, .int x3), (5, .int x5), (6, .int x6), (7, .int x7)] [] I J := by
  unfold f_Model_difference_b234 at h
  obtain ⟨t234, et234⟩ : ∃ y : Int32, y = x7 + 1 := ⟨_, rfl⟩
  have h := h t234 et234
  refine wp_iinc (L' := [(7, .int t234), (0, .ref (ad Γ 177)), (1, .int x1), (3, .int x3), (5, .int x5), (6, .int x6)]) X dX11_difference_234 5 rfl (ii_1 et234) (by decide) rfl ?_
  refine wp_goto (tgt := 115) X dX11_difference_237 (by decide) ?_
  refine wp_sub X [1, 2, 3, 4, 5, 0] rfl ?_
  exact hkh _ _ _ _ h

set_option maxRecDepth 100000 in
set_option maxHeartbeats 4000000 in
theorem w_Model_difference_L115 {Γ : Ctx} {Q : Int64 → MI → MJ → Prop} {x1 : Int32} {x3 : Int32} {x6 : Int32} {k240 : Int32 → MI → MJ → Prop} (X : Cx Γ cX11_difference 10 RX11 2) (Y : Rt Γ (Pl Q) (Option.some Jvm.ClassFile.FieldType.long))  (hk240 : ∀ (x5 : Int32) (I : MI) (J : MJ), k240 x5 I J → Wp Γ 10 240 [(0, .ref (ad Γ 177)), (1, .int x1), (3, .int x3), (5, .int x5), (6, .int x6)] [] I J) : ∀ (n : Nat) (x5 : Int32) (x7 : Int32) (I : MI) (J : MJ), f_Model_difference_L115 x1 x3 x6 k240 n x5 x7 I J → Wp Γ 10 115 [(0, .ref (ad Γ 177)), (1, .int x1), (3, .int x3), (5, .int x5), (6, .int x6), (7, .int x7)] [] I J := by
  intro n
  induction n with
  | zero => intro x5 x7 I J h; exact absurd h (by simp [f_Model_difference_L115])
  | succ n ih =>
  intro x5 x7 I J h
  unfold f_Model_difference_L115 at h
  refine wp_iload X dX11_difference_115 5 rfl ?_
  refine wp_iconst X dX11_difference_117 ic_4 ?_
  refine wp_icmp_ge (tgt := 240) X dX11_difference_118 (by decide) (fun hc => ?_) (fun hc => ?_)
  · have h := ite_t h hc
    refine wp_sub X [0, 1, 2, 3, 4] rfl ?_
    exact hk240 _ _ _ h
  · have h := ite_f h hc
    refine wp_aload_n X dX11_difference_121 0 rfl ?_
    refine wp_iload_n X dX11_difference_122 1 rfl ?_
    refine wp_aload_n X dX11_difference_123 0 rfl ?_
    refine gf_X11_81 (o' := 201) X sh_177 rfl dX11_difference_124 ?_
    refine wp_iload X dX11_difference_127 4 rfl ?_
    obtain ⟨hb129, h⟩ := h
    refine wp_iald X sh_201 hb129 dX11_difference_129 ?_
    refine wp_iload X dX11_difference_130 5 rfl ?_
    refine cv_Model_leadsOf X dX11_difference_132 ml_X11_273  h (Nat.le_of_ble_eq_true rfl) (by decide) (fun r132 I132 J132 h => ?_)
    refine wp_istore (L' := [(8, .int r132), (0, .ref (ad Γ 177)), (1, .int x1), (3, .int x3), (5, .int x5), (6, .int x6), (7, .int x7)]) X dX11_difference_135 (by decide) rfl ?_
    refine wp_aload_n X dX11_difference_137 1 rfl ?_
    refine wp_iload_n X dX11_difference_138 3 rfl ?_
    refine wp_aload_n X dX11_difference_139 1 rfl ?_
    refine gf_X11_84 (o' := 202) X sh_177 rfl dX11_difference_140 ?_
    refine wp_iload X dX11_difference_143 5 rfl ?_
    obtain ⟨hb145, h⟩ := h
    refine wp_iald X sh_202 hb145 dX11_difference_145 ?_
    refine wp_iload X dX11_difference_146 6 rfl ?_
    refine cv_Model_leadsOf X dX11_difference_148 ml_X11_273  h (Nat.le_of_ble_eq_true rfl) (by decide) (fun r148 I148 J148 h => ?_)
    refine wp_istore (L' := [(9, .int r148), (8, .int r132), (0, .ref (ad Γ 177)), (1, .int x1), (3, .int x3), (5, .int x5), (6, .int x6), (7, .int x7)]) X dX11_difference_151 (by decide) rfl ?_
    refine wp_aload_n X dX11_difference_153 2 rfl ?_
    refine gf_X11_90 (o' := 204) X sh_177 rfl dX11_difference_154 ?_
    refine wp_bipush X dX11_difference_157 bi_16 ?_
    refine wp_iload X dX11_difference_159 1 rfl ?_
    refine wp_iconst X dX11_difference_161 ic_1 ?_
    refine wp_iadd X dX11_difference_162 ?_
    refine wp_imul X dX11_difference_163 ?_
    refine wp_iload X dX11_difference_164 0 rfl ?_
    refine wp_iadd X dX11_difference_166 ?_
    refine wp_iconst X dX11_difference_167 ic_1 ?_
    refine wp_iadd X dX11_difference_168 ?_
    obtain ⟨hb169, h⟩ := h
    refine wp_zald X sh_204 hb169 dX11_difference_169 ?_
    refine wp_if_ne (tgt := 234) X dX11_difference_170 (by decide) (fun hc => ?_) (fun hc => ?_)
    · have h := ite_f h hc
      refine wp_sub X [2, 3, 4, 5, 6, 7] rfl ?_
      exact w_Model_difference_b234 X Y ih h
    · have h := ite_t h hc
      refine wp_aload_n X dX11_difference_173 2 rfl ?_
      refine gf_X11_90 (o' := 204) X sh_177 rfl dX11_difference_174 ?_
      refine wp_bipush X dX11_difference_177 bi_16 ?_
      refine wp_iload X dX11_difference_179 1 rfl ?_
      refine wp_iconst X dX11_difference_181 ic_1 ?_
      refine wp_iadd X dX11_difference_182 ?_
      refine wp_imul X dX11_difference_183 ?_
      refine wp_iload X dX11_difference_184 0 rfl ?_
      refine wp_iadd X dX11_difference_186 ?_
      refine wp_iconst X dX11_difference_187 ic_1 ?_
      refine wp_iadd X dX11_difference_188 ?_
      refine wp_iconst X dX11_difference_189 ic_1 ?_
      obtain ⟨hb190, h⟩ := h
      refine wp_zast X sh_204 hb190 dX11_difference_190 ?_
      refine wp_memI (fun I190 eI190 => ?_)
      have h := h I190 eI190
      refine wp_aload_n X dX11_difference_191 2 rfl ?_
      refine gf_X11_81 (o' := 201) X sh_177 rfl dX11_difference_192 ?_
      refine wp_iload X dX11_difference_195 5 rfl ?_
      refine wp_iload X dX11_difference_197 1 rfl ?_
      obtain ⟨hb199, h⟩ := h
      refine wp_iast X sh_201 hb199 dX11_difference_199 ?_
      refine wp_memI (fun I199 eI199 => ?_)
      have h := h I199 eI199
      refine wp_aload_n X dX11_difference_200 2 rfl ?_
      refine gf_X11_84 (o' := 202) X sh_177 rfl dX11_difference_201 ?_
      refine wp_iload X dX11_difference_204 5 rfl ?_
      refine wp_iload X dX11_difference_206 0 rfl ?_
      obtain ⟨hb208, h⟩ := h
      refine wp_iast X sh_202 hb208 dX11_difference_208 ?_
      refine wp_memI (fun I208 eI208 => ?_)
      have h := h I208 eI208
      refine wp_aload_n X dX11_difference_209 2 rfl ?_
      refine gf_X11_87 (o' := 203) X sh_177 rfl dX11_difference_210 ?_
      refine wp_iload X dX11_difference_213 5 rfl ?_
      refine wp_ldc2 X kl_X11_197 dX11_difference_215 ?_
      refine wp_aload_n X dX11_difference_218 2 rfl ?_
      refine gf_X11_87 (o' := 203) X sh_177 rfl dX11_difference_219 ?_
      refine wp_iload X dX11_difference_222 6 rfl ?_
      obtain ⟨hb224, h⟩ := h
      refine wp_lald X sh_203 hb224 dX11_difference_224 ?_
      refine wp_lmul X dX11_difference_225 ?_
      refine wp_iload X dX11_difference_226 7 rfl ?_
      refine wp_i2l X dX11_difference_228 ?_
      refine wp_ladd X dX11_difference_229 ?_
      obtain ⟨hb230, h⟩ := h
      refine wp_last X sh_203 hb230 dX11_difference_230 ?_
      refine wp_memJ (fun J230 eJ230 => ?_)
      have h := h J230 eJ230
      obtain ⟨t231, et231⟩ : ∃ y : Int32, y = x5 + 1 := ⟨_, rfl⟩
      have h := h t231 et231
      refine wp_iinc (L' := [(5, .int t231), (9, .int r148), (8, .int r132), (0, .ref (ad Γ 177)), (1, .int x1), (3, .int x3), (6, .int x6), (7, .int x7)]) X dX11_difference_231 5 rfl (ii_1 et231) (by decide) rfl ?_
      refine wp_sub X [3, 4, 5, 0, 6, 7] rfl ?_
      exact w_Model_difference_b234 X Y ih h

set_option maxRecDepth 100000 in
set_option maxHeartbeats 4000000 in
theorem w_Model_difference_L70 {Γ : Ctx} {Q : Int64 → MI → MJ → Prop} {x1 : Int32} {x3 : Int32} {k104 : Int32 → MI → MJ → Prop} {k246 : MI → MJ → Prop} (X : Cx Γ cX11_difference 10 RX11 2) (Y : Rt Γ (Pl Q) (Option.some Jvm.ClassFile.FieldType.long))  (hk104 : ∀ (x6 : Int32) (I : MI) (J : MJ), k104 x6 I J → Wp Γ 10 104 [(0, .ref (ad Γ 177)), (6, .int x6)] [] I J) (hk246 : ∀ (I : MI) (J : MJ), k246 I J → Wp Γ 10 246 [] [] I J) : ∀ (n : Nat) (x5 : Int32) (x6 : Int32) (I : MI) (J : MJ), f_Model_difference_L70 x1 x3 k104 k246 n x5 x6 I J → Wp Γ 10 70 [(0, .ref (ad Γ 177)), (1, .int x1), (3, .int x3), (5, .int x5), (6, .int x6)] [] I J := by
  intro n
  induction n with
  | zero => intro x5 x6 I J h; exact absurd h (by simp [f_Model_difference_L70])
  | succ n ih =>
  intro x5 x6 I J h
  unfold f_Model_difference_L70 at h
  refine wp_iload X dX11_difference_70 4 rfl ?_
  refine wp_iload X dX11_difference_72 3 rfl ?_
  refine wp_icmp_ge (tgt := 246) X dX11_difference_74 (by decide) (fun hc => ?_) (fun hc => ?_)
  · have h := ite_t h hc
    refine wp_sub X [] rfl ?_
    exact hk246 _ _ h
  · have h := ite_f h hc
    refine wp_aload_n X dX11_difference_77 0 rfl ?_
    refine wp_iload_n X dX11_difference_78 1 rfl ?_
    refine wp_aload_n X dX11_difference_79 0 rfl ?_
    refine gf_X11_81 (o' := 201) X sh_177 rfl dX11_difference_80 ?_
    refine wp_iload X dX11_difference_83 4 rfl ?_
    obtain ⟨hb85, h⟩ := h
    refine wp_iald X sh_201 hb85 dX11_difference_85 ?_
    refine cv_Model_saysOf X dX11_difference_86 ml_X11_270  h (Nat.le_of_ble_eq_true rfl) (by decide) (fun r86 I86 J86 h => ?_)
    refine wp_aload_n X dX11_difference_89 0 rfl ?_
    refine wp_iload_n X dX11_difference_90 2 rfl ?_
    refine wp_aload_n X dX11_difference_91 0 rfl ?_
    refine gf_X11_84 (o' := 202) X sh_177 rfl dX11_difference_92 ?_
    refine wp_iload X dX11_difference_95 4 rfl ?_
    obtain ⟨hb97, h⟩ := h
    refine wp_iald X sh_202 hb97 dX11_difference_97 ?_
    refine cv_Model_saysOf X dX11_difference_98 ml_X11_270  h (Nat.le_of_ble_eq_true rfl) (by decide) (fun r98 I98 J98 h => ?_)
    refine wp_icmp_eq (tgt := 112) X dX11_difference_101 (by decide) (fun hc => ?_) (fun hc => ?_)
    · have h := ite_t h hc
      refine wp_iconst X dX11_difference_112 ic_0 ?_
      refine wp_istore (L' := [(7, .int 0), (0, .ref (ad Γ 177)), (1, .int x1), (3, .int x3), (5, .int x5), (6, .int x6)]) X dX11_difference_113 (by decide) rfl ?_
      obtain ⟨n, h⟩ := h
      refine wp_sub X [1, 2, 3, 4, 5, 0] rfl ?_
      refine w_Model_difference_L115 X Y  ?_ n _ _ _ _ h
      · intro z240_x5 I J h
        obtain ⟨t240, et240⟩ : ∃ y : Int32, y = x6 + 1 := ⟨_, rfl⟩
        have h := h t240 et240
        refine wp_iinc (L' := [(6, .int t240), (0, .ref (ad Γ 177)), (1, .int x1), (3, .int x3), (5, .int z240_x5)]) X dX11_difference_240 4 rfl (ii_1 et240) (by decide) rfl ?_
        refine wp_goto (tgt := 70) X dX11_difference_243 (by decide) ?_
        refine wp_sub X [1, 2, 3, 4, 0] rfl ?_
        exact ih _ _ _ _ h
    · have h := ite_f h hc
      refine wp_sub X [0, 4] rfl ?_
      exact hk104 _ _ _ h

set_option maxRecDepth 100000 in
set_option maxHeartbeats 4000000 in
theorem w_Model_difference_L3 {Γ : Ctx} {Q : Int64 → MI → MJ → Prop} {x1 : Int32} {x2 : Int32} {x3 : Int32} {x4 : Int32} {k25 : MI → MJ → Prop} (X : Cx Γ cX11_difference 10 RX11 2) (Y : Rt Γ (Pl Q) (Option.some Jvm.ClassFile.FieldType.long))  (hk25 : ∀ (I : MI) (J : MJ), k25 I J → Wp Γ 10 25 [(0, .ref (ad Γ 177)), (1, .int x1), (2, .int x2), (3, .int x3), (4, .int x4)] [] I J) : ∀ (n : Nat) (x5 : Int32) (I : MI) (J : MJ), f_Model_difference_L3 k25 n x5 I J → Wp Γ 10 3 [(0, .ref (ad Γ 177)), (1, .int x1), (2, .int x2), (3, .int x3), (4, .int x4), (5, .int x5)] [] I J := by
  intro n
  induction n with
  | zero => intro x5 I J h; exact absurd h (by simp [f_Model_difference_L3])
  | succ n ih =>
  intro x5 I J h
  unfold f_Model_difference_L3 at h
  refine wp_iload X dX11_difference_3 5 rfl ?_
  refine wp_sipush X dX11_difference_5 si_256 ?_
  refine wp_icmp_ge (tgt := 25) X dX11_difference_8 (by decide) (fun hc => ?_) (fun hc => ?_)
  · have h := ite_t h hc
    refine wp_sub X [0, 1, 2, 3, 4] rfl ?_
    exact hk25 _ _ h
  · have h := ite_f h hc
    refine wp_aload_n X dX11_difference_11 0 rfl ?_
    refine gf_X11_90 (o' := 204) X sh_177 rfl dX11_difference_12 ?_
    refine wp_iload X dX11_difference_15 5 rfl ?_
    refine wp_iconst X dX11_difference_17 ic_0 ?_
    obtain ⟨hb18, h⟩ := h
    refine wp_zast X sh_204 hb18 dX11_difference_18 ?_
    refine wp_memI (fun I18 eI18 => ?_)
    have h := h I18 eI18
    obtain ⟨t19, et19⟩ : ∃ y : Int32, y = x5 + 1 := ⟨_, rfl⟩
    have h := h t19 et19
    refine wp_iinc (L' := [(5, .int t19), (0, .ref (ad Γ 177)), (1, .int x1), (2, .int x2), (3, .int x3), (4, .int x4)]) X dX11_difference_19 5 rfl (ii_1 et19) (by decide) rfl ?_
    refine wp_goto (tgt := 3) X dX11_difference_22 (by decide) ?_
    refine wp_sub X [1, 2, 3, 4, 5, 0] rfl ?_
    exact ih _ _ _ h

set_option maxRecDepth 100000 in
set_option maxHeartbeats 4000000 in
theorem w_Model_difference_b0 {Γ : Ctx} {Q : Int64 → MI → MJ → Prop} {x1 : Int32} {x2 : Int32} {x3 : Int32} {x4 : Int32}  (X : Cx Γ cX11_difference 10 RX11 2) (Y : Rt Γ (Pl Q) (Option.some Jvm.ClassFile.FieldType.long))   {I : MI} {J : MJ} (h : f_Model_difference x1 x2 x3 x4 I J Q) : Wp Γ 10 0 [(0, .ref (ad Γ 177)), (1, .int x1), (2, .int x2), (3, .int x3), (4, .int x4)] [] I J := by
  unfold f_Model_difference at h
  refine wp_iconst X dX11_difference_0 ic_0 ?_
  refine wp_istore (L' := [(5, .int 0), (0, .ref (ad Γ 177)), (1, .int x1), (2, .int x2), (3, .int x3), (4, .int x4)]) X dX11_difference_1 (by decide) rfl ?_
  obtain ⟨n, h⟩ := h
  refine wp_sub X [1, 2, 3, 4, 5, 0] rfl ?_
  refine w_Model_difference_L3 X Y  ?_ n _ _ _ h
  · intro I J h
    refine wp_aload_n X dX11_difference_25 0 rfl ?_
    refine gf_X11_81 (o' := 201) X sh_177 rfl dX11_difference_26 ?_
    refine wp_iconst X dX11_difference_29 ic_0 ?_
    refine wp_iload_n X dX11_difference_30 2 rfl ?_
    obtain ⟨hb31, h⟩ := h
    refine wp_iast X sh_201 hb31 dX11_difference_31 ?_
    refine wp_memI (fun I31 eI31 => ?_)
    have h := h I31 eI31
    refine wp_aload_n X dX11_difference_32 0 rfl ?_
    refine gf_X11_84 (o' := 202) X sh_177 rfl dX11_difference_33 ?_
    refine wp_iconst X dX11_difference_36 ic_0 ?_
    refine wp_iload X dX11_difference_37 4 rfl ?_
    obtain ⟨hb39, h⟩ := h
    refine wp_iast X sh_202 hb39 dX11_difference_39 ?_
    refine wp_memI (fun I39 eI39 => ?_)
    have h := h I39 eI39
    refine wp_aload_n X dX11_difference_40 0 rfl ?_
    refine gf_X11_87 (o' := 203) X sh_177 rfl dX11_difference_41 ?_
    refine wp_iconst X dX11_difference_44 ic_0 ?_
    refine wp_lconst X dX11_difference_45 lc_1 ?_
    obtain ⟨hb46, h⟩ := h
    refine wp_last X sh_203 hb46 dX11_difference_46 ?_
    refine wp_memJ (fun J46 eJ46 => ?_)
    have h := h J46 eJ46
    refine wp_aload_n X dX11_difference_47 0 rfl ?_
    refine gf_X11_90 (o' := 204) X sh_177 rfl dX11_difference_48 ?_
    refine wp_bipush X dX11_difference_51 bi_16 ?_
    refine wp_iload_n X dX11_difference_53 2 rfl ?_
    refine wp_iconst X dX11_difference_54 ic_1 ?_
    refine wp_iadd X dX11_difference_55 ?_
    refine wp_imul X dX11_difference_56 ?_
    refine wp_iload X dX11_difference_57 4 rfl ?_
    refine wp_iadd X dX11_difference_59 ?_
    refine wp_iconst X dX11_difference_60 ic_1 ?_
    refine wp_iadd X dX11_difference_61 ?_
    refine wp_iconst X dX11_difference_62 ic_1 ?_
    obtain ⟨hb63, h⟩ := h
    refine wp_zast X sh_204 hb63 dX11_difference_63 ?_
    refine wp_memI (fun I63 eI63 => ?_)
    have h := h I63 eI63
    refine wp_iconst X dX11_difference_64 ic_1 ?_
    refine wp_istore (L' := [(5, .int 1), (0, .ref (ad Γ 177)), (1, .int x1), (2, .int x2), (3, .int x3), (4, .int x4)]) X dX11_difference_65 (by decide) rfl ?_
    refine wp_iconst X dX11_difference_67 ic_0 ?_
    refine wp_istore (L' := [(6, .int 0), (5, .int 1), (0, .ref (ad Γ 177)), (1, .int x1), (2, .int x2), (3, .int x3), (4, .int x4)]) X dX11_difference_68 (by decide) rfl ?_
    obtain ⟨n, h⟩ := h
    refine wp_sub X [2, 3, 5, 1, 0] rfl ?_
    refine w_Model_difference_L70 X Y  ?_ ?_ n _ _ _ _ h
    · intro z104_x6 I J h
      refine wp_aload_n X dX11_difference_104 0 rfl ?_
      refine gf_X11_87 (o' := 203) X sh_177 rfl dX11_difference_105 ?_
      refine wp_iload X dX11_difference_108 1 rfl ?_
      obtain ⟨hb110, h⟩ := h
      refine wp_lald X sh_203 hb110 dX11_difference_110 ?_
      exact wp_lret X Y dX11_difference_111 ⟨_, rfl, h⟩
    · intro I J h
      refine wp_lconst X dX11_difference_246 lc_0 ?_
      exact wp_lret X Y dX11_difference_247 ⟨_, rfl, h⟩

theorem c_Model_difference {l : Launch} {g : GE} (hg : Inj g) {I : MI} {J : MJ} {Q : Int64 → MI → MJ → Prop} {x1 : Int32} {x2 : Int32} {x3 : Int32} {x4 : Int32}  (h : f_Model_difference x1 x2 x3 x4 I J Q) : Cm l g yX11_difference cX11_difference 10 (Option.some Jvm.ClassFile.FieldType.long) 2 [.ref (g.1 177), .int x1, .int x2, .int x3, .int x4] I J (Pl Q) := by
  refine Cm.of (As := fun ad => [.ref (ad 177), .int x1, .int x2, .int x3, .int x4]) hg pn_X11 (Nat.le_of_ble_eq_true rfl) ?_
  exact (fun Γ _ _ X Y => w_Model_difference_b0 X Y  h)
theorem cv_Model_difference {Γ : Ctx} {cc : ByteArray} {nL d pc index : Nat} {own : String} {L : List (Nat × Value)} {rest : List Value} {I : MI} {J : MJ} {Q : Int64 → MI → MJ → Prop} {x1 : Int32} {x2 : Int32} {x3 : Int32} {x4 : Int32} (X : Cx Γ cc nL own d) (hd : decode cc pc = .ok (.invokevirtual index, 3)) (hlink : Cond.methodLink own index yX11_difference ∈ TT)  (h : f_Model_difference x1 x2 x3 x4 I J Q) (hrest : (rest.map fun v => v.category).sum ≤ 8) (hdd : 2 + 1 ≤ d) (kk : ∀ (r : Int64) (I' : MI) (J' : MJ), Q r I' J' → Wp Γ nL (pc + 3) L (.long r :: rest) I' J') : Wp Γ nL pc L (.int x4 :: .int x3 :: .int x2 :: .int x1 :: .ref (ad Γ 177) :: rest) I J :=
  wp_callV (As := [.int x1, .int x2, .int x3, .int x4]) (rest := rest) (T := TX11) (N := 62) X hd hlink mv_X11_difference sh_177 (by decide) rfl (c_Model_difference X.inj  h) rfl rfl hrest hdd (fun v I' J' hv => by obtain ⟨r, rfl, hq⟩ := hv; exact kk r I' J' hq)
theorem dX11_differ_0 : decode cX11_differ 0 = .ok (.aload_n 0, 1) := by decide +kernel
theorem dX11_differ_1 : decode cX11_differ 1 = .ok (.iload_n 1, 1) := by decide +kernel
theorem dX11_differ_2 : decode cX11_differ 2 = .ok (.invokevirtual 242, 3) := by decide +kernel
theorem dX11_differ_5 : decode cX11_differ 5 = .ok (.ifCond .eq 31, 3) := by decide +kernel
theorem dX11_differ_8 : decode cX11_differ 8 = .ok (.aload_n 0, 1) := by decide +kernel
theorem dX11_differ_9 : decode cX11_differ 9 = .ok (.iload_n 2, 1) := by decide +kernel
theorem dX11_differ_10 : decode cX11_differ 10 = .ok (.invokevirtual 242, 3) := by decide +kernel
theorem dX11_differ_13 : decode cX11_differ 13 = .ok (.ifCond .eq 23, 3) := by decide +kernel
theorem dX11_differ_16 : decode cX11_differ 16 = .ok (.aload_n 0, 1) := by decide +kernel
theorem dX11_differ_17 : decode cX11_differ 17 = .ok (.iload_n 1, 1) := by decide +kernel
theorem dX11_differ_18 : decode cX11_differ 18 = .ok (.bipush 18, 2) := by decide +kernel
theorem dX11_differ_20 : decode cX11_differ 20 = .ok (.invokevirtual 276, 3) := by decide +kernel
theorem dX11_differ_23 : decode cX11_differ 23 = .ok (.ifCond .eq 13, 3) := by decide +kernel
theorem dX11_differ_26 : decode cX11_differ 26 = .ok (.aload_n 0, 1) := by decide +kernel
theorem dX11_differ_27 : decode cX11_differ 27 = .ok (.iload_n 2, 1) := by decide +kernel
theorem dX11_differ_28 : decode cX11_differ 28 = .ok (.bipush 19, 2) := by decide +kernel
theorem dX11_differ_30 : decode cX11_differ 30 = .ok (.invokevirtual 276, 3) := by decide +kernel
theorem dX11_differ_33 : decode cX11_differ 33 = .ok (.ifCond .ne 7, 3) := by decide +kernel
theorem dX11_differ_36 : decode cX11_differ 36 = .ok (.ldc2_w 261, 3) := by decide +kernel
theorem dX11_differ_39 : decode cX11_differ 39 = .ok (.lreturn, 1) := by decide +kernel
theorem dX11_differ_40 : decode cX11_differ 40 = .ok (.aload_n 0, 1) := by decide +kernel
theorem dX11_differ_41 : decode cX11_differ 41 = .ok (.bipush 18, 2) := by decide +kernel
theorem dX11_differ_43 : decode cX11_differ 43 = .ok (.iconst 0, 1) := by decide +kernel
theorem dX11_differ_44 : decode cX11_differ 44 = .ok (.bipush 19, 2) := by decide +kernel
theorem dX11_differ_46 : decode cX11_differ 46 = .ok (.iconst 0, 1) := by decide +kernel
theorem dX11_differ_47 : decode cX11_differ 47 = .ok (.invokevirtual 279, 3) := by decide +kernel
theorem dX11_differ_50 : decode cX11_differ 50 = .ok (.lreturn, 1) := by decide +kernel
def f_Model_differ (x1 : Int32) (x2 : Int32) (I : MI) (J : MJ) (Q : Int64 → MI → MJ → Prop) : Prop :=
  f_Model_isMachine x1 I J (fun r2 I2 J2 => (if r2 = 0 then Q (-1) I2 J2 else f_Model_isMachine x2 I2 J2 (fun r10 I10 J10 => (if r10 = 0 then Q (-1) I10 J10 else f_Model_findLeast x1 (18 : Int32) I10 J10 (fun r20 I20 J20 => (if r20 = 0 then Q (-1) I20 J20 else f_Model_findLeast x2 (19 : Int32) I20 J20 (fun r30 I30 J30 => (if r30 = 0 then Q (-1) I30 J30 else f_Model_difference (18 : Int32) (0 : Int32) (19 : Int32) (0 : Int32) I30 J30 (fun r47 I47 J47 => Q r47 I47 J47)))))))))
set_option maxRecDepth 100000 in
set_option maxHeartbeats 4000000 in
theorem w_Model_differ_b0 {Γ : Ctx} {Q : Int64 → MI → MJ → Prop} {x1 : Int32} {x2 : Int32}  (X : Cx Γ cX11_differ 3 RX11 4) (Y : Rt Γ (Pl Q) (Option.some Jvm.ClassFile.FieldType.long))   {I : MI} {J : MJ} (h : f_Model_differ x1 x2 I J Q) : Wp Γ 3 0 [(0, .ref (ad Γ 177)), (1, .int x1), (2, .int x2)] [] I J := by
  unfold f_Model_differ at h
  refine wp_aload_n X dX11_differ_0 0 rfl ?_
  refine wp_iload_n X dX11_differ_1 1 rfl ?_
  refine cv_Model_isMachine X dX11_differ_2 ml_X11_242  h (Nat.le_of_ble_eq_true rfl) (by decide) (fun r2 I2 J2 h => ?_)
  refine wp_if_eq (tgt := 36) X dX11_differ_5 (by decide) (fun hc => ?_) (fun hc => ?_)
  · have h := ite_t h hc
    refine wp_ldc2 X kl_X11_261 dX11_differ_36 ?_
    exact wp_lret X Y dX11_differ_39 ⟨_, rfl, h⟩
  · have h := ite_f h hc
    refine wp_aload_n X dX11_differ_8 0 rfl ?_
    refine wp_iload_n X dX11_differ_9 2 rfl ?_
    refine cv_Model_isMachine X dX11_differ_10 ml_X11_242  h (Nat.le_of_ble_eq_true rfl) (by decide) (fun r10 I10 J10 h => ?_)
    refine wp_if_eq (tgt := 36) X dX11_differ_13 (by decide) (fun hc => ?_) (fun hc => ?_)
    · have h := ite_t h hc
      refine wp_ldc2 X kl_X11_261 dX11_differ_36 ?_
      exact wp_lret X Y dX11_differ_39 ⟨_, rfl, h⟩
    · have h := ite_f h hc
      refine wp_aload_n X dX11_differ_16 0 rfl ?_
      refine wp_iload_n X dX11_differ_17 1 rfl ?_
      refine wp_bipush X dX11_differ_18 bi_18 ?_
      refine cv_Model_findLeast X dX11_differ_20 ml_X11_276  h (Nat.le_of_ble_eq_true rfl) (by decide) (fun r20 I20 J20 h => ?_)
      refine wp_if_eq (tgt := 36) X dX11_differ_23 (by decide) (fun hc => ?_) (fun hc => ?_)
      · have h := ite_t h hc
        refine wp_ldc2 X kl_X11_261 dX11_differ_36 ?_
        exact wp_lret X Y dX11_differ_39 ⟨_, rfl, h⟩
      · have h := ite_f h hc
        refine wp_aload_n X dX11_differ_26 0 rfl ?_
        refine wp_iload_n X dX11_differ_27 2 rfl ?_
        refine wp_bipush X dX11_differ_28 bi_19 ?_
        refine cv_Model_findLeast X dX11_differ_30 ml_X11_276  h (Nat.le_of_ble_eq_true rfl) (by decide) (fun r30 I30 J30 h => ?_)
        refine wp_if_ne (tgt := 40) X dX11_differ_33 (by decide) (fun hc => ?_) (fun hc => ?_)
        · have h := ite_f h hc
          refine wp_aload_n X dX11_differ_40 0 rfl ?_
          refine wp_bipush X dX11_differ_41 bi_18 ?_
          refine wp_iconst X dX11_differ_43 ic_0 ?_
          refine wp_bipush X dX11_differ_44 bi_19 ?_
          refine wp_iconst X dX11_differ_46 ic_0 ?_
          refine cv_Model_difference X dX11_differ_47 ml_X11_279  h (Nat.le_of_ble_eq_true rfl) (by decide) (fun r47 I47 J47 h => ?_)
          exact wp_lret X Y dX11_differ_50 ⟨_, rfl, h⟩
        · have h := ite_t h hc
          refine wp_ldc2 X kl_X11_261 dX11_differ_36 ?_
          exact wp_lret X Y dX11_differ_39 ⟨_, rfl, h⟩

theorem c_Model_differ {l : Launch} {g : GE} (hg : Inj g) {I : MI} {J : MJ} {Q : Int64 → MI → MJ → Prop} {x1 : Int32} {x2 : Int32}  (h : f_Model_differ x1 x2 I J Q) : Cm l g yX11_differ cX11_differ 3 (Option.some Jvm.ClassFile.FieldType.long) 4 [.ref (g.1 177), .int x1, .int x2] I J (Pl Q) := by
  refine Cm.of (As := fun ad => [.ref (ad 177), .int x1, .int x2]) hg pn_X11 (Nat.le_of_ble_eq_true rfl) ?_
  exact (fun Γ _ _ X Y => w_Model_differ_b0 X Y  h)
theorem cv_Model_differ {Γ : Ctx} {cc : ByteArray} {nL d pc index : Nat} {own : String} {L : List (Nat × Value)} {rest : List Value} {I : MI} {J : MJ} {Q : Int64 → MI → MJ → Prop} {x1 : Int32} {x2 : Int32} (X : Cx Γ cc nL own d) (hd : decode cc pc = .ok (.invokevirtual index, 3)) (hlink : Cond.methodLink own index yX11_differ ∈ TT)  (h : f_Model_differ x1 x2 I J Q) (hrest : (rest.map fun v => v.category).sum ≤ 8) (hdd : 4 + 1 ≤ d) (kk : ∀ (r : Int64) (I' : MI) (J' : MJ), Q r I' J' → Wp Γ nL (pc + 3) L (.long r :: rest) I' J') : Wp Γ nL pc L (.int x2 :: .int x1 :: .ref (ad Γ 177) :: rest) I J :=
  wp_callV (As := [.int x1, .int x2]) (rest := rest) (T := TX11) (N := 62) X hd hlink mv_X11_differ sh_177 (by decide) rfl (c_Model_differ X.inj  h) rfl rfl hrest hdd (fun v I' J' hv => by obtain ⟨r, rfl, hq⟩ := hv; exact kk r I' J' hq)
theorem dX11_least_0 : decode cX11_least 0 = .ok (.aload_n 0, 1) := by decide +kernel
theorem dX11_least_1 : decode cX11_least 1 = .ok (.iload_n 1, 1) := by decide +kernel
theorem dX11_least_2 : decode cX11_least 2 = .ok (.invokevirtual 222, 3) := by decide +kernel
theorem dX11_least_5 : decode cX11_least 5 = .ok (.ifCond .eq 13, 3) := by decide +kernel
theorem dX11_least_8 : decode cX11_least 8 = .ok (.aload_n 0, 1) := by decide +kernel
theorem dX11_least_9 : decode cX11_least 9 = .ok (.aload_n 0, 1) := by decide +kernel
theorem dX11_least_10 : decode cX11_least 10 = .ok (.iload_n 1, 1) := by decide +kernel
theorem dX11_least_11 : decode cX11_least 11 = .ok (.invokevirtual 222, 3) := by decide +kernel
theorem dX11_least_14 : decode cX11_least 14 = .ok (.invokevirtual 219, 3) := by decide +kernel
theorem dX11_least_17 : decode cX11_least 17 = .ok (.ireturn, 1) := by decide +kernel
theorem dX11_least_18 : decode cX11_least 18 = .ok (.iload_n 2, 1) := by decide +kernel
theorem dX11_least_19 : decode cX11_least 19 = .ok (.invokestatic 145, 3) := by decide +kernel
theorem dX11_least_22 : decode cX11_least 22 = .ok (.ifCond .ne 9, 3) := by decide +kernel
theorem dX11_least_25 : decode cX11_least 25 = .ok (.aload_n 0, 1) := by decide +kernel
theorem dX11_least_26 : decode cX11_least 26 = .ok (.iconst 2, 1) := by decide +kernel
theorem dX11_least_27 : decode cX11_least 27 = .ok (.invokevirtual 219, 3) := by decide +kernel
theorem dX11_least_30 : decode cX11_least 30 = .ok (.ireturn, 1) := by decide +kernel
theorem dX11_least_31 : decode cX11_least 31 = .ok (.aload_n 0, 1) := by decide +kernel
theorem dX11_least_32 : decode cX11_least 32 = .ok (.iload_n 1, 1) := by decide +kernel
theorem dX11_least_33 : decode cX11_least 33 = .ok (.bipush 18, 2) := by decide +kernel
theorem dX11_least_35 : decode cX11_least 35 = .ok (.invokevirtual 276, 3) := by decide +kernel
theorem dX11_least_38 : decode cX11_least 38 = .ok (.ifCond .ne 9, 3) := by decide +kernel
theorem dX11_least_41 : decode cX11_least 41 = .ok (.aload_n 0, 1) := by decide +kernel
theorem dX11_least_42 : decode cX11_least 42 = .ok (.iconst 5, 1) := by decide +kernel
theorem dX11_least_43 : decode cX11_least 43 = .ok (.invokevirtual 219, 3) := by decide +kernel
theorem dX11_least_46 : decode cX11_least 46 = .ok (.ireturn, 1) := by decide +kernel
theorem dX11_least_47 : decode cX11_least 47 = .ok (.aload_n 0, 1) := by decide +kernel
theorem dX11_least_48 : decode cX11_least 48 = .ok (.iload_n 2, 1) := by decide +kernel
theorem dX11_least_49 : decode cX11_least 49 = .ok (.bipush 18, 2) := by decide +kernel
theorem dX11_least_51 : decode cX11_least 51 = .ok (.invokevirtual 282, 3) := by decide +kernel
theorem dX11_least_54 : decode cX11_least 54 = .ok (.ireturn, 1) := by decide +kernel
def f_Model_least (x1 : Int32) (x2 : Int32) (I : MI) (J : MJ) (Q : Int32 → MI → MJ → Prop) : Prop :=
  f_Model_noMachine x1 I J (fun r2 I2 J2 => (if r2 = 0 then f_Model_isPlace x2 I2 J2 (fun r19 I19 J19 => (if r19 = 0 then f_Model_refuse (2 : Int32) I19 J19 (fun r27 I27 J27 => Q r27 I27 J27) else f_Model_findLeast x1 (18 : Int32) I19 J19 (fun r35 I35 J35 => (if r35 = 0 then f_Model_refuse (5 : Int32) I35 J35 (fun r43 I43 J43 => Q r43 I43 J43) else f_Model_put x2 (18 : Int32) I35 J35 (fun r51 I51 J51 => Q r51 I51 J51))))) else f_Model_noMachine x1 I2 J2 (fun r11 I11 J11 => f_Model_refuse r11 I11 J11 (fun r14 I14 J14 => Q r14 I14 J14))))
set_option maxRecDepth 100000 in
set_option maxHeartbeats 4000000 in
theorem w_Model_least_b0 {Γ : Ctx} {Q : Int32 → MI → MJ → Prop} {x1 : Int32} {x2 : Int32}  (X : Cx Γ cX11_least 3 RX11 4) (Y : Rt Γ (Pi Q) (Option.some Jvm.ClassFile.FieldType.int))   {I : MI} {J : MJ} (h : f_Model_least x1 x2 I J Q) : Wp Γ 3 0 [(0, .ref (ad Γ 177)), (1, .int x1), (2, .int x2)] [] I J := by
  unfold f_Model_least at h
  refine wp_aload_n X dX11_least_0 0 rfl ?_
  refine wp_iload_n X dX11_least_1 1 rfl ?_
  refine cv_Model_noMachine X dX11_least_2 ml_X11_222  h (Nat.le_of_ble_eq_true rfl) (by decide) (fun r2 I2 J2 h => ?_)
  refine wp_if_eq (tgt := 18) X dX11_least_5 (by decide) (fun hc => ?_) (fun hc => ?_)
  · have h := ite_t h hc
    refine wp_iload_n X dX11_least_18 2 rfl ?_
    refine cs_Model_isPlace X dX11_least_19 ml_X11_145  h (Nat.le_of_ble_eq_true rfl) (by decide) (fun r19 I19 J19 h => ?_)
    refine wp_if_ne (tgt := 31) X dX11_least_22 (by decide) (fun hc => ?_) (fun hc => ?_)
    · have h := ite_f h hc
      refine wp_aload_n X dX11_least_31 0 rfl ?_
      refine wp_iload_n X dX11_least_32 1 rfl ?_
      refine wp_bipush X dX11_least_33 bi_18 ?_
      refine cv_Model_findLeast X dX11_least_35 ml_X11_276  h (Nat.le_of_ble_eq_true rfl) (by decide) (fun r35 I35 J35 h => ?_)
      refine wp_if_ne (tgt := 47) X dX11_least_38 (by decide) (fun hc => ?_) (fun hc => ?_)
      · have h := ite_f h hc
        refine wp_aload_n X dX11_least_47 0 rfl ?_
        refine wp_iload_n X dX11_least_48 2 rfl ?_
        refine wp_bipush X dX11_least_49 bi_18 ?_
        refine cv_Model_put X dX11_least_51 ml_X11_282  h (Nat.le_of_ble_eq_true rfl) (by decide) (fun r51 I51 J51 h => ?_)
        exact wp_iret X Y dX11_least_54 ⟨_, rfl, h⟩
      · have h := ite_t h hc
        refine wp_aload_n X dX11_least_41 0 rfl ?_
        refine wp_iconst X dX11_least_42 ic_5 ?_
        refine cv_Model_refuse X dX11_least_43 ml_X11_219  h (Nat.le_of_ble_eq_true rfl) (by decide) (fun r43 I43 J43 h => ?_)
        exact wp_iret X Y dX11_least_46 ⟨_, rfl, h⟩
    · have h := ite_t h hc
      refine wp_aload_n X dX11_least_25 0 rfl ?_
      refine wp_iconst X dX11_least_26 ic_2 ?_
      refine cv_Model_refuse X dX11_least_27 ml_X11_219  h (Nat.le_of_ble_eq_true rfl) (by decide) (fun r27 I27 J27 h => ?_)
      exact wp_iret X Y dX11_least_30 ⟨_, rfl, h⟩
  · have h := ite_f h hc
    refine wp_aload_n X dX11_least_8 0 rfl ?_
    refine wp_aload_n X dX11_least_9 0 rfl ?_
    refine wp_iload_n X dX11_least_10 1 rfl ?_
    refine cv_Model_noMachine X dX11_least_11 ml_X11_222  h (Nat.le_of_ble_eq_true rfl) (by decide) (fun r11 I11 J11 h => ?_)
    refine cv_Model_refuse X dX11_least_14 ml_X11_219  h (Nat.le_of_ble_eq_true rfl) (by decide) (fun r14 I14 J14 h => ?_)
    exact wp_iret X Y dX11_least_17 ⟨_, rfl, h⟩

theorem c_Model_least {l : Launch} {g : GE} (hg : Inj g) {I : MI} {J : MJ} {Q : Int32 → MI → MJ → Prop} {x1 : Int32} {x2 : Int32}  (h : f_Model_least x1 x2 I J Q) : Cm l g yX11_least cX11_least 3 (Option.some Jvm.ClassFile.FieldType.int) 4 [.ref (g.1 177), .int x1, .int x2] I J (Pi Q) := by
  refine Cm.of (As := fun ad => [.ref (ad 177), .int x1, .int x2]) hg pn_X11 (Nat.le_of_ble_eq_true rfl) ?_
  exact (fun Γ _ _ X Y => w_Model_least_b0 X Y  h)
theorem cv_Model_least {Γ : Ctx} {cc : ByteArray} {nL d pc index : Nat} {own : String} {L : List (Nat × Value)} {rest : List Value} {I : MI} {J : MJ} {Q : Int32 → MI → MJ → Prop} {x1 : Int32} {x2 : Int32} (X : Cx Γ cc nL own d) (hd : decode cc pc = .ok (.invokevirtual index, 3)) (hlink : Cond.methodLink own index yX11_least ∈ TT)  (h : f_Model_least x1 x2 I J Q) (hrest : (rest.map fun v => v.category).sum ≤ 8) (hdd : 4 + 1 ≤ d) (kk : ∀ (r : Int32) (I' : MI) (J' : MJ), Q r I' J' → Wp Γ nL (pc + 3) L (.int r :: rest) I' J') : Wp Γ nL pc L (.int x2 :: .int x1 :: .ref (ad Γ 177) :: rest) I J :=
  wp_callV (As := [.int x1, .int x2]) (rest := rest) (T := TX11) (N := 62) X hd hlink mv_X11_least sh_177 (by decide) rfl (c_Model_least X.inj  h) rfl rfl hrest hdd (fun v I' J' hv => by obtain ⟨r, rfl, hq⟩ := hv; exact kk r I' J' hq)
theorem dX11_isYesBy_0 : decode cX11_isYesBy 0 = .ok (.iload_n 2, 1) := by decide +kernel
theorem dX11_isYesBy_1 : decode cX11_isYesBy 1 = .ok (.ifCond .lt 22, 3) := by decide +kernel
theorem dX11_isYesBy_4 : decode cX11_isYesBy 4 = .ok (.aload_n 0, 1) := by decide +kernel
theorem dX11_isYesBy_5 : decode cX11_isYesBy 5 = .ok (.getfield 39, 3) := by decide +kernel
theorem dX11_isYesBy_8 : decode cX11_isYesBy 8 = .ok (.bipush 14, 2) := by decide +kernel
theorem dX11_isYesBy_10 : decode cX11_isYesBy 10 = .ok (.iload_n 1, 1) := by decide +kernel
theorem dX11_isYesBy_11 : decode cX11_isYesBy 11 = .ok (.imul, 1) := by decide +kernel
theorem dX11_isYesBy_12 : decode cX11_isYesBy 12 = .ok (.iload_n 2, 1) := by decide +kernel
theorem dX11_isYesBy_13 : decode cX11_isYesBy 13 = .ok (.iadd, 1) := by decide +kernel
theorem dX11_isYesBy_14 : decode cX11_isYesBy 14 = .ok (.iaload, 1) := by decide +kernel
theorem dX11_isYesBy_15 : decode cX11_isYesBy 15 = .ok (.iconst 1, 1) := by decide +kernel
theorem dX11_isYesBy_16 : decode cX11_isYesBy 16 = .ok (.if_icmp .ne 7, 3) := by decide +kernel
theorem dX11_isYesBy_19 : decode cX11_isYesBy 19 = .ok (.iconst 1, 1) := by decide +kernel
theorem dX11_isYesBy_20 : decode cX11_isYesBy 20 = .ok (.goto 4, 3) := by decide +kernel
theorem dX11_isYesBy_23 : decode cX11_isYesBy 23 = .ok (.iconst 0, 1) := by decide +kernel
theorem dX11_isYesBy_24 : decode cX11_isYesBy 24 = .ok (.ireturn, 1) := by decide +kernel
def f_Model_isYesBy (x1 : Int32) (x2 : Int32) (I : MI) (J : MJ) (Q : Int32 → MI → MJ → Prop) : Prop :=
  (if x2 < 0 then Q 0 I J else vp_in ((14 * x1) + x2) 280 ∧ (if (I 187 ((14 * x1) + x2).toNatClampNeg) = 1 then Q 1 I J else Q 0 I J))
set_option maxRecDepth 100000 in
set_option maxHeartbeats 4000000 in
theorem w_Model_isYesBy_b0 {Γ : Ctx} {Q : Int32 → MI → MJ → Prop} {x1 : Int32} {x2 : Int32}  (X : Cx Γ cX11_isYesBy 3 RX11 0) (Y : Rt Γ (Pi Q) (Option.some Jvm.ClassFile.FieldType.boolean))   {I : MI} {J : MJ} (h : f_Model_isYesBy x1 x2 I J Q) : Wp Γ 3 0 [(0, .ref (ad Γ 177)), (1, .int x1), (2, .int x2)] [] I J := by
  unfold f_Model_isYesBy at h
  refine wp_iload_n X dX11_isYesBy_0 2 rfl ?_
  refine wp_if_lt (tgt := 23) X dX11_isYesBy_1 (by decide) (fun hc => ?_) (fun hc => ?_)
  · have h := ite_t h hc
    refine wp_iconst X dX11_isYesBy_23 ic_0 ?_
    exact wp_zret X Y dX11_isYesBy_24 (by decide) ⟨_, rfl, h⟩
  · have h := ite_f h hc
    refine wp_aload_n X dX11_isYesBy_4 0 rfl ?_
    refine gf_X11_39 (o' := 187) X sh_177 rfl dX11_isYesBy_5 ?_
    refine wp_bipush X dX11_isYesBy_8 bi_14 ?_
    refine wp_iload_n X dX11_isYesBy_10 1 rfl ?_
    refine wp_imul X dX11_isYesBy_11 ?_
    refine wp_iload_n X dX11_isYesBy_12 2 rfl ?_
    refine wp_iadd X dX11_isYesBy_13 ?_
    obtain ⟨hb14, h⟩ := h
    refine wp_iald X sh_187 hb14 dX11_isYesBy_14 ?_
    refine wp_iconst X dX11_isYesBy_15 ic_1 ?_
    refine wp_icmp_ne (tgt := 23) X dX11_isYesBy_16 (by decide) (fun hc => ?_) (fun hc => ?_)
    · have h := ite_f h hc
      refine wp_iconst X dX11_isYesBy_23 ic_0 ?_
      exact wp_zret X Y dX11_isYesBy_24 (by decide) ⟨_, rfl, h⟩
    · have h := ite_t h hc
      refine wp_iconst X dX11_isYesBy_19 ic_1 ?_
      refine wp_goto (tgt := 24) X dX11_isYesBy_20 (by decide) ?_
      exact wp_zret X Y dX11_isYesBy_24 (by decide) ⟨_, rfl, h⟩

theorem c_Model_isYesBy {l : Launch} {g : GE} (hg : Inj g) {I : MI} {J : MJ} {Q : Int32 → MI → MJ → Prop} {x1 : Int32} {x2 : Int32}  (h : f_Model_isYesBy x1 x2 I J Q) : Cm l g yX11_isYesBy cX11_isYesBy 3 (Option.some Jvm.ClassFile.FieldType.boolean) 0 [.ref (g.1 177), .int x1, .int x2] I J (Pi Q) := by
  refine Cm.of (As := fun ad => [.ref (ad 177), .int x1, .int x2]) hg pn_X11 (Nat.le_of_ble_eq_true rfl) ?_
  exact (fun Γ _ _ X Y => w_Model_isYesBy_b0 X Y  h)
theorem cv_Model_isYesBy {Γ : Ctx} {cc : ByteArray} {nL d pc index : Nat} {own : String} {L : List (Nat × Value)} {rest : List Value} {I : MI} {J : MJ} {Q : Int32 → MI → MJ → Prop} {x1 : Int32} {x2 : Int32} (X : Cx Γ cc nL own d) (hd : decode cc pc = .ok (.invokevirtual index, 3)) (hlink : Cond.methodLink own index yX11_isYesBy ∈ TT)  (h : f_Model_isYesBy x1 x2 I J Q) (hrest : (rest.map fun v => v.category).sum ≤ 8) (hdd : 0 + 1 ≤ d) (kk : ∀ (r : Int32) (I' : MI) (J' : MJ), Q r I' J' → Wp Γ nL (pc + 3) L (.int r :: rest) I' J') : Wp Γ nL pc L (.int x2 :: .int x1 :: .ref (ad Γ 177) :: rest) I J :=
  wp_callV (As := [.int x1, .int x2]) (rest := rest) (T := TX11) (N := 62) X hd hlink mv_X11_isYesBy sh_177 (by decide) rfl (c_Model_isYesBy X.inj  h) rfl rfl hrest hdd (fun v I' J' hv => by obtain ⟨r, rfl, hq⟩ := hv; exact kk r I' J' hq)
theorem dX11_anyYes_0 : decode cX11_anyYes 0 = .ok (.iconst 0, 1) := by decide +kernel
theorem dX11_anyYes_1 : decode cX11_anyYes 1 = .ok (.istore_n 3, 1) := by decide +kernel
theorem dX11_anyYes_2 : decode cX11_anyYes 2 = .ok (.iconst 0, 1) := by decide +kernel
theorem dX11_anyYes_3 : decode cX11_anyYes 3 = .ok (.istore 4, 2) := by decide +kernel
theorem dX11_anyYes_5 : decode cX11_anyYes 5 = .ok (.iload 4, 2) := by decide +kernel
theorem dX11_anyYes_7 : decode cX11_anyYes 7 = .ok (.aload_n 0, 1) := by decide +kernel
theorem dX11_anyYes_8 : decode cX11_anyYes 8 = .ok (.getfield 33, 3) := by decide +kernel
theorem dX11_anyYes_11 : decode cX11_anyYes 11 = .ok (.iload_n 1, 1) := by decide +kernel
theorem dX11_anyYes_12 : decode cX11_anyYes 12 = .ok (.iaload, 1) := by decide +kernel
theorem dX11_anyYes_13 : decode cX11_anyYes 13 = .ok (.if_icmp .ge 39, 3) := by decide +kernel
theorem dX11_anyYes_16 : decode cX11_anyYes 16 = .ok (.iload_n 3, 1) := by decide +kernel
theorem dX11_anyYes_17 : decode cX11_anyYes 17 = .ok (.ifCond .ne 23, 3) := by decide +kernel
theorem dX11_anyYes_20 : decode cX11_anyYes 20 = .ok (.iload_n 2, 1) := by decide +kernel
theorem dX11_anyYes_21 : decode cX11_anyYes 21 = .ok (.iload 4, 2) := by decide +kernel
theorem dX11_anyYes_23 : decode cX11_anyYes 23 = .ok (.ishr, 1) := by decide +kernel
theorem dX11_anyYes_24 : decode cX11_anyYes 24 = .ok (.iconst 1, 1) := by decide +kernel
theorem dX11_anyYes_25 : decode cX11_anyYes 25 = .ok (.iand, 1) := by decide +kernel
theorem dX11_anyYes_26 : decode cX11_anyYes 26 = .ok (.iconst 1, 1) := by decide +kernel
theorem dX11_anyYes_27 : decode cX11_anyYes 27 = .ok (.if_icmp .ne 17, 3) := by decide +kernel
theorem dX11_anyYes_30 : decode cX11_anyYes 30 = .ok (.aload_n 0, 1) := by decide +kernel
theorem dX11_anyYes_31 : decode cX11_anyYes 31 = .ok (.iload_n 1, 1) := by decide +kernel
theorem dX11_anyYes_32 : decode cX11_anyYes 32 = .ok (.iload 4, 2) := by decide +kernel
theorem dX11_anyYes_34 : decode cX11_anyYes 34 = .ok (.invokevirtual 285, 3) := by decide +kernel
theorem dX11_anyYes_37 : decode cX11_anyYes 37 = .ok (.ifCond .eq 7, 3) := by decide +kernel
theorem dX11_anyYes_40 : decode cX11_anyYes 40 = .ok (.iconst 1, 1) := by decide +kernel
theorem dX11_anyYes_41 : decode cX11_anyYes 41 = .ok (.goto 4, 3) := by decide +kernel
theorem dX11_anyYes_44 : decode cX11_anyYes 44 = .ok (.iconst 0, 1) := by decide +kernel
theorem dX11_anyYes_45 : decode cX11_anyYes 45 = .ok (.istore_n 3, 1) := by decide +kernel
theorem dX11_anyYes_46 : decode cX11_anyYes 46 = .ok (.iinc 4 1, 3) := by decide +kernel
theorem dX11_anyYes_49 : decode cX11_anyYes 49 = .ok (.goto (-44), 3) := by decide +kernel
theorem dX11_anyYes_52 : decode cX11_anyYes 52 = .ok (.iload_n 3, 1) := by decide +kernel
theorem dX11_anyYes_53 : decode cX11_anyYes 53 = .ok (.ireturn, 1) := by decide +kernel
def f_Model_anyYes_b45 (x4 : Int32) (s0 : Int32) (kh : Int32 → Int32 → MI → MJ → Prop) (I : MI) (J : MJ) : Prop :=
  ∀ t46 : Int32, t46 = x4 + 1 → kh s0 t46 I J
def f_Model_anyYes_b44 (x4 : Int32) (kh : Int32 → Int32 → MI → MJ → Prop) (I : MI) (J : MJ) : Prop :=
  f_Model_anyYes_b45 x4 0 kh I J
def f_Model_anyYes_b40 (x4 : Int32) (kh : Int32 → Int32 → MI → MJ → Prop) (I : MI) (J : MJ) : Prop :=
  f_Model_anyYes_b45 x4 1 kh I J
def f_Model_anyYes_L5 (x1 : Int32) (x2 : Int32) (k52 : Int32 → MI → MJ → Prop) : Nat → Int32 → Int32 → MI → MJ → Prop
  | 0, _, _, _, _ => False
  | nf5 + 1, x3, x4, I, J =>
  vp_in x1 20 ∧ (if (I 185 x1.toNatClampNeg) ≤ x4 then k52 x3 I J else (if x3 = 0 then (if ((x2 >>> (x4 &&& 31)) &&& 1) = 1 then f_Model_isYesBy x1 x4 I J (fun r34 I34 J34 => (if r34 = 0 then f_Model_anyYes_b44 x4 (f_Model_anyYes_L5 x1 x2 k52 nf5) I34 J34 else f_Model_anyYes_b40 x4 (f_Model_anyYes_L5 x1 x2 k52 nf5) I34 J34)) else f_Model_anyYes_b44 x4 (f_Model_anyYes_L5 x1 x2 k52 nf5) I J) else f_Model_anyYes_b40 x4 (f_Model_anyYes_L5 x1 x2 k52 nf5) I J))
def f_Model_anyYes (x1 : Int32) (x2 : Int32) (I : MI) (J : MJ) (Q : Int32 → MI → MJ → Prop) : Prop :=
  ∃ n, f_Model_anyYes_L5 x1 x2 (fun (z52_x3 : Int32) (I : MI) (J : MJ) => (z52_x3 = 0 ∨ z52_x3 = 1) ∧ Q z52_x3 I J) n 0 0 I J
set_option maxRecDepth 100000 in
set_option maxHeartbeats 4000000 in
theorem w_Model_anyYes_b45 {Γ : Ctx} {Q : Int32 → MI → MJ → Prop} {x1 : Int32} {x2 : Int32} {x4 : Int32} {s0 : Int32} {kh : Int32 → Int32 → MI → MJ → Prop} (X : Cx Γ cX11_anyYes 5 RX11 1) (Y : Rt Γ (Pi Q) (Option.some Jvm.ClassFile.FieldType.boolean))  (hkh : ∀ (x3 : Int32) (x4 : Int32) (I : MI) (J : MJ), kh x3 x4 I J → Wp Γ 5 5 [(0, .ref (ad Γ 177)), (1, .int x1), (2, .int x2), (3, .int x3), (4, .int x4)] [] I J) {I : MI} {J : MJ} (h : f_Model_anyYes_b45 x4 s0 kh I J) : Wp Γ 5 45 [(0, .ref (ad Γ 177)), (1, .int x1), (2, .int x2), (4, .int x4)] [.int s0] I J := by
  unfold f_Model_anyYes_b45 at h
  refine wp_istore_n (L' := [(3, .int s0), (0, .ref (ad Γ 177)), (1, .int x1), (2, .int x2), (4, .int x4)]) X dX11_anyYes_45 rfl (by decide) rfl ?_
  obtain ⟨t46, et46⟩ : ∃ y : Int32, y = x4 + 1 := ⟨_, rfl⟩
  have h := h t46 et46
  refine wp_iinc (L' := [(4, .int t46), (3, .int s0), (0, .ref (ad Γ 177)), (1, .int x1), (2, .int x2)]) X dX11_anyYes_46 4 rfl (ii_1 et46) (by decide) rfl ?_
  refine wp_goto (tgt := 5) X dX11_anyYes_49 (by decide) ?_
  refine wp_sub X [2, 3, 4, 1, 0] rfl ?_
  exact hkh _ _ _ _ h

set_option maxRecDepth 100000 in
set_option maxHeartbeats 4000000 in
theorem w_Model_anyYes_b44 {Γ : Ctx} {Q : Int32 → MI → MJ → Prop} {x1 : Int32} {x2 : Int32} {x4 : Int32} {kh : Int32 → Int32 → MI → MJ → Prop} (X : Cx Γ cX11_anyYes 5 RX11 1) (Y : Rt Γ (Pi Q) (Option.some Jvm.ClassFile.FieldType.boolean))  (hkh : ∀ (x3 : Int32) (x4 : Int32) (I : MI) (J : MJ), kh x3 x4 I J → Wp Γ 5 5 [(0, .ref (ad Γ 177)), (1, .int x1), (2, .int x2), (3, .int x3), (4, .int x4)] [] I J) {I : MI} {J : MJ} (h : f_Model_anyYes_b44 x4 kh I J) : Wp Γ 5 44 [(0, .ref (ad Γ 177)), (1, .int x1), (2, .int x2), (4, .int x4)] [] I J := by
  unfold f_Model_anyYes_b44 at h
  refine wp_iconst X dX11_anyYes_44 ic_0 ?_
  exact w_Model_anyYes_b45 X Y hkh h

set_option maxRecDepth 100000 in
set_option maxHeartbeats 4000000 in
theorem w_Model_anyYes_b40 {Γ : Ctx} {Q : Int32 → MI → MJ → Prop} {x1 : Int32} {x2 : Int32} {x4 : Int32} {kh : Int32 → Int32 → MI → MJ → Prop} (X : Cx Γ cX11_anyYes 5 RX11 1) (Y : Rt Γ (Pi Q) (Option.some Jvm.ClassFile.FieldType.boolean))  (hkh : ∀ (x3 : Int32) (x4 : Int32) (I : MI) (J : MJ), kh x3 x4 I J → Wp Γ 5 5 [(0, .ref (ad Γ 177)), (1, .int x1), (2, .int x2), (3, .int x3), (4, .int x4)] [] I J) {I : MI} {J : MJ} (h : f_Model_anyYes_b40 x4 kh I J) : Wp Γ 5 40 [(0, .ref (ad Γ 177)), (1, .int x1), (2, .int x2), (4, .int x4)] [] I J := by
  unfold f_Model_anyYes_b40 at h
  refine wp_iconst X dX11_anyYes_40 ic_1 ?_
  refine wp_goto (tgt := 45) X dX11_anyYes_41 (by decide) ?_
  exact w_Model_anyYes_b45 X Y hkh h

set_option maxRecDepth 100000 in
set_option maxHeartbeats 4000000 in
theorem w_Model_anyYes_L5 {Γ : Ctx} {Q : Int32 → MI → MJ → Prop} {x1 : Int32} {x2 : Int32} {k52 : Int32 → MI → MJ → Prop} (X : Cx Γ cX11_anyYes 5 RX11 1) (Y : Rt Γ (Pi Q) (Option.some Jvm.ClassFile.FieldType.boolean))  (hk52 : ∀ (x3 : Int32) (I : MI) (J : MJ), k52 x3 I J → Wp Γ 5 52 [(3, .int x3)] [] I J) : ∀ (n : Nat) (x3 : Int32) (x4 : Int32) (I : MI) (J : MJ), f_Model_anyYes_L5 x1 x2 k52 n x3 x4 I J → Wp Γ 5 5 [(0, .ref (ad Γ 177)), (1, .int x1), (2, .int x2), (3, .int x3), (4, .int x4)] [] I J := by
  intro n
  induction n with
  | zero => intro x3 x4 I J h; exact absurd h (by simp [f_Model_anyYes_L5])
  | succ n ih =>
  intro x3 x4 I J h
  unfold f_Model_anyYes_L5 at h
  refine wp_iload X dX11_anyYes_5 4 rfl ?_
  refine wp_aload_n X dX11_anyYes_7 0 rfl ?_
  refine gf_X11_33 (o' := 185) X sh_177 rfl dX11_anyYes_8 ?_
  refine wp_iload_n X dX11_anyYes_11 1 rfl ?_
  obtain ⟨hb12, h⟩ := h
  refine wp_iald X sh_185 hb12 dX11_anyYes_12 ?_
  refine wp_icmp_ge (tgt := 52) X dX11_anyYes_13 (by decide) (fun hc => ?_) (fun hc => ?_)
  · have h := ite_t h hc
    refine wp_sub X [3] rfl ?_
    exact hk52 _ _ _ h
  · have h := ite_f h hc
    refine wp_iload_n X dX11_anyYes_16 3 rfl ?_
    refine wp_if_ne (tgt := 40) X dX11_anyYes_17 (by decide) (fun hc => ?_) (fun hc => ?_)
    · have h := ite_f h hc
      refine wp_sub X [0, 1, 2, 4] rfl ?_
      exact w_Model_anyYes_b40 X Y ih h
    · have h := ite_t h hc
      refine wp_iload_n X dX11_anyYes_20 2 rfl ?_
      refine wp_iload X dX11_anyYes_21 4 rfl ?_
      refine wp_ishr X dX11_anyYes_23 ?_
      refine wp_iconst X dX11_anyYes_24 ic_1 ?_
      refine wp_iand X dX11_anyYes_25 ?_
      refine wp_iconst X dX11_anyYes_26 ic_1 ?_
      refine wp_icmp_ne (tgt := 44) X dX11_anyYes_27 (by decide) (fun hc => ?_) (fun hc => ?_)
      · have h := ite_f h hc
        refine wp_sub X [0, 1, 2, 4] rfl ?_
        exact w_Model_anyYes_b44 X Y ih h
      · have h := ite_t h hc
        refine wp_aload_n X dX11_anyYes_30 0 rfl ?_
        refine wp_iload_n X dX11_anyYes_31 1 rfl ?_
        refine wp_iload X dX11_anyYes_32 4 rfl ?_
        refine cv_Model_isYesBy X dX11_anyYes_34 ml_X11_285  h (Nat.le_of_ble_eq_true rfl) (by decide) (fun r34 I34 J34 h => ?_)
        refine wp_if_eq (tgt := 44) X dX11_anyYes_37 (by decide) (fun hc => ?_) (fun hc => ?_)
        · have h := ite_t h hc
          refine wp_sub X [0, 1, 2, 4] rfl ?_
          exact w_Model_anyYes_b44 X Y ih h
        · have h := ite_f h hc
          refine wp_sub X [0, 1, 2, 4] rfl ?_
          exact w_Model_anyYes_b40 X Y ih h

set_option maxRecDepth 100000 in
set_option maxHeartbeats 4000000 in
theorem w_Model_anyYes_b0 {Γ : Ctx} {Q : Int32 → MI → MJ → Prop} {x1 : Int32} {x2 : Int32}  (X : Cx Γ cX11_anyYes 5 RX11 1) (Y : Rt Γ (Pi Q) (Option.some Jvm.ClassFile.FieldType.boolean))   {I : MI} {J : MJ} (h : f_Model_anyYes x1 x2 I J Q) : Wp Γ 5 0 [(0, .ref (ad Γ 177)), (1, .int x1), (2, .int x2)] [] I J := by
  unfold f_Model_anyYes at h
  refine wp_iconst X dX11_anyYes_0 ic_0 ?_
  refine wp_istore_n (L' := [(3, .int 0), (0, .ref (ad Γ 177)), (1, .int x1), (2, .int x2)]) X dX11_anyYes_1 rfl (by decide) rfl ?_
  refine wp_iconst X dX11_anyYes_2 ic_0 ?_
  refine wp_istore (L' := [(4, .int 0), (3, .int 0), (0, .ref (ad Γ 177)), (1, .int x1), (2, .int x2)]) X dX11_anyYes_3 (by decide) rfl ?_
  obtain ⟨n, h⟩ := h
  refine wp_sub X [2, 3, 4, 1, 0] rfl ?_
  refine w_Model_anyYes_L5 X Y  ?_ n _ _ _ _ h
  · intro z52_x3 I J h
    refine wp_iload_n X dX11_anyYes_52 0 rfl ?_
    exact wp_zret X Y dX11_anyYes_53 h.1 ⟨_, rfl, h.2⟩

theorem c_Model_anyYes {l : Launch} {g : GE} (hg : Inj g) {I : MI} {J : MJ} {Q : Int32 → MI → MJ → Prop} {x1 : Int32} {x2 : Int32}  (h : f_Model_anyYes x1 x2 I J Q) : Cm l g yX11_anyYes cX11_anyYes 5 (Option.some Jvm.ClassFile.FieldType.boolean) 1 [.ref (g.1 177), .int x1, .int x2] I J (Pi Q) := by
  refine Cm.of (As := fun ad => [.ref (ad 177), .int x1, .int x2]) hg pn_X11 (Nat.le_of_ble_eq_true rfl) ?_
  exact (fun Γ _ _ X Y => w_Model_anyYes_b0 X Y  h)
theorem cv_Model_anyYes {Γ : Ctx} {cc : ByteArray} {nL d pc index : Nat} {own : String} {L : List (Nat × Value)} {rest : List Value} {I : MI} {J : MJ} {Q : Int32 → MI → MJ → Prop} {x1 : Int32} {x2 : Int32} (X : Cx Γ cc nL own d) (hd : decode cc pc = .ok (.invokevirtual index, 3)) (hlink : Cond.methodLink own index yX11_anyYes ∈ TT)  (h : f_Model_anyYes x1 x2 I J Q) (hrest : (rest.map fun v => v.category).sum ≤ 8) (hdd : 1 + 1 ≤ d) (kk : ∀ (r : Int32) (I' : MI) (J' : MJ), Q r I' J' → Wp Γ nL (pc + 3) L (.int r :: rest) I' J') : Wp Γ nL pc L (.int x2 :: .int x1 :: .ref (ad Γ 177) :: rest) I J :=
  wp_callV (As := [.int x1, .int x2]) (rest := rest) (T := TX11) (N := 62) X hd hlink mv_X11_anyYes sh_177 (by decide) rfl (c_Model_anyYes X.inj  h) rfl rfl hrest hdd (fun v I' J' hv => by obtain ⟨r, rfl, hq⟩ := hv; exact kk r I' J' hq)
theorem dX11_ledTo_0 : decode cX11_ledTo 0 = .ok (.iconst 0, 1) := by decide +kernel
theorem dX11_ledTo_1 : decode cX11_ledTo 1 = .ok (.istore 4, 2) := by decide +kernel
theorem dX11_ledTo_3 : decode cX11_ledTo 3 = .ok (.iconst 0, 1) := by decide +kernel
theorem dX11_ledTo_4 : decode cX11_ledTo 4 = .ok (.istore 5, 2) := by decide +kernel
theorem dX11_ledTo_6 : decode cX11_ledTo 6 = .ok (.iload 5, 2) := by decide +kernel
theorem dX11_ledTo_8 : decode cX11_ledTo 8 = .ok (.aload_n 0, 1) := by decide +kernel
theorem dX11_ledTo_9 : decode cX11_ledTo 9 = .ok (.getfield 33, 3) := by decide +kernel
theorem dX11_ledTo_12 : decode cX11_ledTo 12 = .ok (.iload_n 1, 1) := by decide +kernel
theorem dX11_ledTo_13 : decode cX11_ledTo 13 = .ok (.iaload, 1) := by decide +kernel
theorem dX11_ledTo_14 : decode cX11_ledTo 14 = .ok (.if_icmp .ge 51, 3) := by decide +kernel
theorem dX11_ledTo_17 : decode cX11_ledTo 17 = .ok (.iload_n 2, 1) := by decide +kernel
theorem dX11_ledTo_18 : decode cX11_ledTo 18 = .ok (.iload 5, 2) := by decide +kernel
theorem dX11_ledTo_20 : decode cX11_ledTo 20 = .ok (.ishr, 1) := by decide +kernel
theorem dX11_ledTo_21 : decode cX11_ledTo 21 = .ok (.iconst 1, 1) := by decide +kernel
theorem dX11_ledTo_22 : decode cX11_ledTo 22 = .ok (.iand, 1) := by decide +kernel
theorem dX11_ledTo_23 : decode cX11_ledTo 23 = .ok (.iconst 1, 1) := by decide +kernel
theorem dX11_ledTo_24 : decode cX11_ledTo 24 = .ok (.if_icmp .ne 14, 3) := by decide +kernel
theorem dX11_ledTo_27 : decode cX11_ledTo 27 = .ok (.aload_n 0, 1) := by decide +kernel
theorem dX11_ledTo_28 : decode cX11_ledTo 28 = .ok (.iload_n 1, 1) := by decide +kernel
theorem dX11_ledTo_29 : decode cX11_ledTo 29 = .ok (.iload 5, 2) := by decide +kernel
theorem dX11_ledTo_31 : decode cX11_ledTo 31 = .ok (.iload_n 3, 1) := by decide +kernel
theorem dX11_ledTo_32 : decode cX11_ledTo 32 = .ok (.invokevirtual 273, 3) := by decide +kernel
theorem dX11_ledTo_35 : decode cX11_ledTo 35 = .ok (.goto 4, 3) := by decide +kernel
theorem dX11_ledTo_38 : decode cX11_ledTo 38 = .ok (.iconst (-1), 1) := by decide +kernel
theorem dX11_ledTo_39 : decode cX11_ledTo 39 = .ok (.istore 6, 2) := by decide +kernel
theorem dX11_ledTo_41 : decode cX11_ledTo 41 = .ok (.iload 4, 2) := by decide +kernel
theorem dX11_ledTo_43 : decode cX11_ledTo 43 = .ok (.iload 6, 2) := by decide +kernel
theorem dX11_ledTo_45 : decode cX11_ledTo 45 = .ok (.ifCond .lt 10, 3) := by decide +kernel
theorem dX11_ledTo_48 : decode cX11_ledTo 48 = .ok (.iconst 1, 1) := by decide +kernel
theorem dX11_ledTo_49 : decode cX11_ledTo 49 = .ok (.iload 6, 2) := by decide +kernel
theorem dX11_ledTo_51 : decode cX11_ledTo 51 = .ok (.ishl, 1) := by decide +kernel
theorem dX11_ledTo_52 : decode cX11_ledTo 52 = .ok (.goto 4, 3) := by decide +kernel
theorem dX11_ledTo_55 : decode cX11_ledTo 55 = .ok (.iconst 0, 1) := by decide +kernel
theorem dX11_ledTo_56 : decode cX11_ledTo 56 = .ok (.ior, 1) := by decide +kernel
theorem dX11_ledTo_57 : decode cX11_ledTo 57 = .ok (.istore 4, 2) := by decide +kernel
theorem dX11_ledTo_59 : decode cX11_ledTo 59 = .ok (.iinc 5 1, 3) := by decide +kernel
theorem dX11_ledTo_62 : decode cX11_ledTo 62 = .ok (.goto (-56), 3) := by decide +kernel
theorem dX11_ledTo_65 : decode cX11_ledTo 65 = .ok (.iload 4, 2) := by decide +kernel
theorem dX11_ledTo_67 : decode cX11_ledTo 67 = .ok (.ireturn, 1) := by decide +kernel
def f_Model_ledTo_b56 (x5 : Int32) (s0 : Int32) (s1 : Int32) (kh : Int32 → Int32 → MI → MJ → Prop) (I : MI) (J : MJ) : Prop :=
  ∀ t57 : Int32, t57 = s0 ||| s1 → ∀ t59 : Int32, t59 = x5 + 1 → kh t57 t59 I J
def f_Model_ledTo_b39 (x4 : Int32) (x5 : Int32) (s0 : Int32) (kh : Int32 → Int32 → MI → MJ → Prop) (I : MI) (J : MJ) : Prop :=
  (if s0 < 0 then f_Model_ledTo_b56 x5 x4 0 kh I J else f_Model_ledTo_b56 x5 x4 (1 <<< (s0 &&& 31)) kh I J)
def f_Model_ledTo_L6 (x1 : Int32) (x2 : Int32) (x3 : Int32) (k65 : Int32 → MI → MJ → Prop) : Nat → Int32 → Int32 → MI → MJ → Prop
  | 0, _, _, _, _ => False
  | nf6 + 1, x4, x5, I, J =>
  vp_in x1 20 ∧ (if (I 185 x1.toNatClampNeg) ≤ x5 then k65 x4 I J else (if ((x2 >>> (x5 &&& 31)) &&& 1) = 1 then f_Model_leadsOf x1 x5 x3 I J (fun r32 I32 J32 => f_Model_ledTo_b39 x4 x5 r32 (f_Model_ledTo_L6 x1 x2 x3 k65 nf6) I32 J32) else f_Model_ledTo_b39 x4 x5 (-1) (f_Model_ledTo_L6 x1 x2 x3 k65 nf6) I J))
def f_Model_ledTo (x1 : Int32) (x2 : Int32) (x3 : Int32) (I : MI) (J : MJ) (Q : Int32 → MI → MJ → Prop) : Prop :=
  ∃ n, f_Model_ledTo_L6 x1 x2 x3 (fun (z65_x4 : Int32) (I : MI) (J : MJ) => Q z65_x4 I J) n 0 0 I J
set_option maxRecDepth 100000 in
set_option maxHeartbeats 4000000 in
theorem w_Model_ledTo_b56 {Γ : Ctx} {Q : Int32 → MI → MJ → Prop} {x1 : Int32} {x2 : Int32} {x3 : Int32} {x5 : Int32} {s0 : Int32} {s1 : Int32} {kh : Int32 → Int32 → MI → MJ → Prop} (X : Cx Γ cX11_ledTo 7 RX11 2) (Y : Rt Γ (Pi Q) (Option.some Jvm.ClassFile.FieldType.int))  (hkh : ∀ (x4 : Int32) (x5 : Int32) (I : MI) (J : MJ), kh x4 x5 I J → Wp Γ 7 6 [(0, .ref (ad Γ 177)), (1, .int x1), (2, .int x2), (3, .int x3), (4, .int x4), (5, .int x5)] [] I J) {I : MI} {J : MJ} (h : f_Model_ledTo_b56 x5 s0 s1 kh I J) : Wp Γ 7 56 [(0, .ref (ad Γ 177)), (1, .int x1), (2, .int x2), (3, .int x3), (5, .int x5)] [.int s1, .int s0] I J := by
  unfold f_Model_ledTo_b56 at h
  refine wp_ior X dX11_ledTo_56 ?_
  refine wp_topi (fun t57 et57 => ?_)
  have h := h t57 et57
  refine wp_istore (L' := [(4, .int t57), (0, .ref (ad Γ 177)), (1, .int x1), (2, .int x2), (3, .int x3), (5, .int x5)]) X dX11_ledTo_57 (by decide) rfl ?_
  obtain ⟨t59, et59⟩ : ∃ y : Int32, y = x5 + 1 := ⟨_, rfl⟩
  have h := h t59 et59
  refine wp_iinc (L' := [(5, .int t59), (4, .int t57), (0, .ref (ad Γ 177)), (1, .int x1), (2, .int x2), (3, .int x3)]) X dX11_ledTo_59 5 rfl (ii_1 et59) (by decide) rfl ?_
  refine wp_goto (tgt := 6) X dX11_ledTo_62 (by decide) ?_
  refine wp_sub X [2, 3, 4, 5, 1, 0] rfl ?_
  exact hkh _ _ _ _ h

set_option maxRecDepth 100000 in
set_option maxHeartbeats 4000000 in
theorem w_Model_ledTo_b39 {Γ : Ctx} {Q : Int32 → MI → MJ → Prop} {x1 : Int32} {x2 : Int32} {x3 : Int32} {x4 : Int32} {x5 : Int32} {s0 : Int32} {kh : Int32 → Int32 → MI → MJ → Prop} (X : Cx Γ cX11_ledTo 7 RX11 2) (Y : Rt Γ (Pi Q) (Option.some Jvm.ClassFile.FieldType.int))  (hkh : ∀ (x4 : Int32) (x5 : Int32) (I : MI) (J : MJ), kh x4 x5 I J → Wp Γ 7 6 [(0, .ref (ad Γ 177)), (1, .int x1), (2, .int x2), (3, .int x3), (4, .int x4), (5, .int x5)] [] I J) {I : MI} {J : MJ} (h : f_Model_ledTo_b39 x4 x5 s0 kh I J) : Wp Γ 7 39 [(0, .ref (ad Γ 177)), (1, .int x1), (2, .int x2), (3, .int x3), (4, .int x4), (5, .int x5)] [.int s0] I J := by
  unfold f_Model_ledTo_b39 at h
  refine wp_istore (L' := [(6, .int s0), (0, .ref (ad Γ 177)), (1, .int x1), (2, .int x2), (3, .int x3), (4, .int x4), (5, .int x5)]) X dX11_ledTo_39 (by decide) rfl ?_
  refine wp_iload X dX11_ledTo_41 5 rfl ?_
  refine wp_iload X dX11_ledTo_43 0 rfl ?_
  refine wp_if_lt (tgt := 55) X dX11_ledTo_45 (by decide) (fun hc => ?_) (fun hc => ?_)
  · have h := ite_t h hc
    refine wp_iconst X dX11_ledTo_55 ic_0 ?_
    refine wp_sub X [1, 2, 3, 4, 6] rfl ?_
    exact w_Model_ledTo_b56 X Y hkh h
  · have h := ite_f h hc
    refine wp_iconst X dX11_ledTo_48 ic_1 ?_
    refine wp_iload X dX11_ledTo_49 0 rfl ?_
    refine wp_ishl X dX11_ledTo_51 ?_
    refine wp_goto (tgt := 56) X dX11_ledTo_52 (by decide) ?_
    refine wp_sub X [1, 2, 3, 4, 6] rfl ?_
    exact w_Model_ledTo_b56 X Y hkh h

set_option maxRecDepth 100000 in
set_option maxHeartbeats 4000000 in
theorem w_Model_ledTo_L6 {Γ : Ctx} {Q : Int32 → MI → MJ → Prop} {x1 : Int32} {x2 : Int32} {x3 : Int32} {k65 : Int32 → MI → MJ → Prop} (X : Cx Γ cX11_ledTo 7 RX11 2) (Y : Rt Γ (Pi Q) (Option.some Jvm.ClassFile.FieldType.int))  (hk65 : ∀ (x4 : Int32) (I : MI) (J : MJ), k65 x4 I J → Wp Γ 7 65 [(4, .int x4)] [] I J) : ∀ (n : Nat) (x4 : Int32) (x5 : Int32) (I : MI) (J : MJ), f_Model_ledTo_L6 x1 x2 x3 k65 n x4 x5 I J → Wp Γ 7 6 [(0, .ref (ad Γ 177)), (1, .int x1), (2, .int x2), (3, .int x3), (4, .int x4), (5, .int x5)] [] I J := by
  intro n
  induction n with
  | zero => intro x4 x5 I J h; exact absurd h (by simp [f_Model_ledTo_L6])
  | succ n ih =>
  intro x4 x5 I J h
  unfold f_Model_ledTo_L6 at h
  refine wp_iload X dX11_ledTo_6 5 rfl ?_
  refine wp_aload_n X dX11_ledTo_8 0 rfl ?_
  refine gf_X11_33 (o' := 185) X sh_177 rfl dX11_ledTo_9 ?_
  refine wp_iload_n X dX11_ledTo_12 1 rfl ?_
  obtain ⟨hb13, h⟩ := h
  refine wp_iald X sh_185 hb13 dX11_ledTo_13 ?_
  refine wp_icmp_ge (tgt := 65) X dX11_ledTo_14 (by decide) (fun hc => ?_) (fun hc => ?_)
  · have h := ite_t h hc
    refine wp_sub X [4] rfl ?_
    exact hk65 _ _ _ h
  · have h := ite_f h hc
    refine wp_iload_n X dX11_ledTo_17 2 rfl ?_
    refine wp_iload X dX11_ledTo_18 5 rfl ?_
    refine wp_ishr X dX11_ledTo_20 ?_
    refine wp_iconst X dX11_ledTo_21 ic_1 ?_
    refine wp_iand X dX11_ledTo_22 ?_
    refine wp_iconst X dX11_ledTo_23 ic_1 ?_
    refine wp_icmp_ne (tgt := 38) X dX11_ledTo_24 (by decide) (fun hc => ?_) (fun hc => ?_)
    · have h := ite_f h hc
      refine wp_iconst X dX11_ledTo_38 ic_m1 ?_
      exact w_Model_ledTo_b39 X Y ih h
    · have h := ite_t h hc
      refine wp_aload_n X dX11_ledTo_27 0 rfl ?_
      refine wp_iload_n X dX11_ledTo_28 1 rfl ?_
      refine wp_iload X dX11_ledTo_29 5 rfl ?_
      refine wp_iload_n X dX11_ledTo_31 3 rfl ?_
      refine cv_Model_leadsOf X dX11_ledTo_32 ml_X11_273  h (Nat.le_of_ble_eq_true rfl) (by decide) (fun r32 I32 J32 h => ?_)
      refine wp_goto (tgt := 39) X dX11_ledTo_35 (by decide) ?_
      exact w_Model_ledTo_b39 X Y ih h

set_option maxRecDepth 100000 in
set_option maxHeartbeats 4000000 in
theorem w_Model_ledTo_b0 {Γ : Ctx} {Q : Int32 → MI → MJ → Prop} {x1 : Int32} {x2 : Int32} {x3 : Int32}  (X : Cx Γ cX11_ledTo 7 RX11 2) (Y : Rt Γ (Pi Q) (Option.some Jvm.ClassFile.FieldType.int))   {I : MI} {J : MJ} (h : f_Model_ledTo x1 x2 x3 I J Q) : Wp Γ 7 0 [(0, .ref (ad Γ 177)), (1, .int x1), (2, .int x2), (3, .int x3)] [] I J := by
  unfold f_Model_ledTo at h
  refine wp_iconst X dX11_ledTo_0 ic_0 ?_
  refine wp_istore (L' := [(4, .int 0), (0, .ref (ad Γ 177)), (1, .int x1), (2, .int x2), (3, .int x3)]) X dX11_ledTo_1 (by decide) rfl ?_
  refine wp_iconst X dX11_ledTo_3 ic_0 ?_
  refine wp_istore (L' := [(5, .int 0), (4, .int 0), (0, .ref (ad Γ 177)), (1, .int x1), (2, .int x2), (3, .int x3)]) X dX11_ledTo_4 (by decide) rfl ?_
  obtain ⟨n, h⟩ := h
  refine wp_sub X [2, 3, 4, 5, 1, 0] rfl ?_
  refine w_Model_ledTo_L6 X Y  ?_ n _ _ _ _ h
  · intro z65_x4 I J h
    refine wp_iload X dX11_ledTo_65 0 rfl ?_
    exact wp_iret X Y dX11_ledTo_67 ⟨_, rfl, h⟩

theorem c_Model_ledTo {l : Launch} {g : GE} (hg : Inj g) {I : MI} {J : MJ} {Q : Int32 → MI → MJ → Prop} {x1 : Int32} {x2 : Int32} {x3 : Int32}  (h : f_Model_ledTo x1 x2 x3 I J Q) : Cm l g yX11_ledTo cX11_ledTo 7 (Option.some Jvm.ClassFile.FieldType.int) 2 [.ref (g.1 177), .int x1, .int x2, .int x3] I J (Pi Q) := by
  refine Cm.of (As := fun ad => [.ref (ad 177), .int x1, .int x2, .int x3]) hg pn_X11 (Nat.le_of_ble_eq_true rfl) ?_
  exact (fun Γ _ _ X Y => w_Model_ledTo_b0 X Y  h)
theorem cv_Model_ledTo {Γ : Ctx} {cc : ByteArray} {nL d pc index : Nat} {own : String} {L : List (Nat × Value)} {rest : List Value} {I : MI} {J : MJ} {Q : Int32 → MI → MJ → Prop} {x1 : Int32} {x2 : Int32} {x3 : Int32} (X : Cx Γ cc nL own d) (hd : decode cc pc = .ok (.invokevirtual index, 3)) (hlink : Cond.methodLink own index yX11_ledTo ∈ TT)  (h : f_Model_ledTo x1 x2 x3 I J Q) (hrest : (rest.map fun v => v.category).sum ≤ 8) (hdd : 2 + 1 ≤ d) (kk : ∀ (r : Int32) (I' : MI) (J' : MJ), Q r I' J' → Wp Γ nL (pc + 3) L (.int r :: rest) I' J') : Wp Γ nL pc L (.int x3 :: .int x2 :: .int x1 :: .ref (ad Γ 177) :: rest) I J :=
  wp_callV (As := [.int x1, .int x2, .int x3]) (rest := rest) (T := TX11) (N := 62) X hd hlink mv_X11_ledTo sh_177 (by decide) rfl (c_Model_ledTo X.inj  h) rfl rfl hrest hdd (fun v I' J' hv => by obtain ⟨r, rfl, hq⟩ := hv; exact kk r I' J' hq)
theorem dX11_ledFrom_0 : decode cX11_ledFrom 0 = .ok (.iconst 0, 1) := by decide +kernel
theorem dX11_ledFrom_1 : decode cX11_ledFrom 1 = .ok (.istore 4, 2) := by decide +kernel
theorem dX11_ledFrom_3 : decode cX11_ledFrom 3 = .ok (.iconst 0, 1) := by decide +kernel
theorem dX11_ledFrom_4 : decode cX11_ledFrom 4 = .ok (.istore 5, 2) := by decide +kernel
theorem dX11_ledFrom_6 : decode cX11_ledFrom 6 = .ok (.iload 5, 2) := by decide +kernel
theorem dX11_ledFrom_8 : decode cX11_ledFrom 8 = .ok (.aload_n 0, 1) := by decide +kernel
theorem dX11_ledFrom_9 : decode cX11_ledFrom 9 = .ok (.getfield 33, 3) := by decide +kernel
theorem dX11_ledFrom_12 : decode cX11_ledFrom 12 = .ok (.iload_n 1, 1) := by decide +kernel
theorem dX11_ledFrom_13 : decode cX11_ledFrom 13 = .ok (.iaload, 1) := by decide +kernel
theorem dX11_ledFrom_14 : decode cX11_ledFrom 14 = .ok (.if_icmp .ge 47, 3) := by decide +kernel
theorem dX11_ledFrom_17 : decode cX11_ledFrom 17 = .ok (.aload_n 0, 1) := by decide +kernel
theorem dX11_ledFrom_18 : decode cX11_ledFrom 18 = .ok (.iload_n 1, 1) := by decide +kernel
theorem dX11_ledFrom_19 : decode cX11_ledFrom 19 = .ok (.iload 5, 2) := by decide +kernel
theorem dX11_ledFrom_21 : decode cX11_ledFrom 21 = .ok (.iload_n 3, 1) := by decide +kernel
theorem dX11_ledFrom_22 : decode cX11_ledFrom 22 = .ok (.invokevirtual 273, 3) := by decide +kernel
theorem dX11_ledFrom_25 : decode cX11_ledFrom 25 = .ok (.istore 6, 2) := by decide +kernel
theorem dX11_ledFrom_27 : decode cX11_ledFrom 27 = .ok (.iload 4, 2) := by decide +kernel
theorem dX11_ledFrom_29 : decode cX11_ledFrom 29 = .ok (.iload 6, 2) := by decide +kernel
theorem dX11_ledFrom_31 : decode cX11_ledFrom 31 = .ok (.ifCond .lt 20, 3) := by decide +kernel
theorem dX11_ledFrom_34 : decode cX11_ledFrom 34 = .ok (.iload_n 2, 1) := by decide +kernel
theorem dX11_ledFrom_35 : decode cX11_ledFrom 35 = .ok (.iload 6, 2) := by decide +kernel
theorem dX11_ledFrom_37 : decode cX11_ledFrom 37 = .ok (.ishr, 1) := by decide +kernel
theorem dX11_ledFrom_38 : decode cX11_ledFrom 38 = .ok (.iconst 1, 1) := by decide +kernel
theorem dX11_ledFrom_39 : decode cX11_ledFrom 39 = .ok (.iand, 1) := by decide +kernel
theorem dX11_ledFrom_40 : decode cX11_ledFrom 40 = .ok (.iconst 1, 1) := by decide +kernel
theorem dX11_ledFrom_41 : decode cX11_ledFrom 41 = .ok (.if_icmp .ne 10, 3) := by decide +kernel
theorem dX11_ledFrom_44 : decode cX11_ledFrom 44 = .ok (.iconst 1, 1) := by decide +kernel
theorem dX11_ledFrom_45 : decode cX11_ledFrom 45 = .ok (.iload 5, 2) := by decide +kernel
theorem dX11_ledFrom_47 : decode cX11_ledFrom 47 = .ok (.ishl, 1) := by decide +kernel
theorem dX11_ledFrom_48 : decode cX11_ledFrom 48 = .ok (.goto 4, 3) := by decide +kernel
theorem dX11_ledFrom_51 : decode cX11_ledFrom 51 = .ok (.iconst 0, 1) := by decide +kernel
theorem dX11_ledFrom_52 : decode cX11_ledFrom 52 = .ok (.ior, 1) := by decide +kernel
theorem dX11_ledFrom_53 : decode cX11_ledFrom 53 = .ok (.istore 4, 2) := by decide +kernel
theorem dX11_ledFrom_55 : decode cX11_ledFrom 55 = .ok (.iinc 5 1, 3) := by decide +kernel
theorem dX11_ledFrom_58 : decode cX11_ledFrom 58 = .ok (.goto (-52), 3) := by decide +kernel
theorem dX11_ledFrom_61 : decode cX11_ledFrom 61 = .ok (.iload 4, 2) := by decide +kernel
theorem dX11_ledFrom_63 : decode cX11_ledFrom 63 = .ok (.ireturn, 1) := by decide +kernel
def f_Model_ledFrom_b52 (x5 : Int32) (s0 : Int32) (s1 : Int32) (kh : Int32 → Int32 → MI → MJ → Prop) (I : MI) (J : MJ) : Prop :=
  ∀ t53 : Int32, t53 = s0 ||| s1 → ∀ t55 : Int32, t55 = x5 + 1 → kh t53 t55 I J
def f_Model_ledFrom_b51 (x5 : Int32) (s0 : Int32) (kh : Int32 → Int32 → MI → MJ → Prop) (I : MI) (J : MJ) : Prop :=
  f_Model_ledFrom_b52 x5 s0 0 kh I J
def f_Model_ledFrom_L6 (x1 : Int32) (x2 : Int32) (x3 : Int32) (k61 : Int32 → MI → MJ → Prop) : Nat → Int32 → Int32 → MI → MJ → Prop
  | 0, _, _, _, _ => False
  | nf6 + 1, x4, x5, I, J =>
  vp_in x1 20 ∧ (if (I 185 x1.toNatClampNeg) ≤ x5 then k61 x4 I J else f_Model_leadsOf x1 x5 x3 I J (fun r22 I22 J22 => (if r22 < 0 then f_Model_ledFrom_b51 x5 x4 (f_Model_ledFrom_L6 x1 x2 x3 k61 nf6) I22 J22 else (if ((x2 >>> (r22 &&& 31)) &&& 1) = 1 then f_Model_ledFrom_b52 x5 x4 (1 <<< (x5 &&& 31)) (f_Model_ledFrom_L6 x1 x2 x3 k61 nf6) I22 J22 else f_Model_ledFrom_b51 x5 x4 (f_Model_ledFrom_L6 x1 x2 x3 k61 nf6) I22 J22))))
def f_Model_ledFrom (x1 : Int32) (x2 : Int32) (x3 : Int32) (I : MI) (J : MJ) (Q : Int32 → MI → MJ → Prop) : Prop :=
  ∃ n, f_Model_ledFrom_L6 x1 x2 x3 (fun (z61_x4 : Int32) (I : MI) (J : MJ) => Q z61_x4 I J) n 0 0 I J
set_option maxRecDepth 100000 in
set_option maxHeartbeats 4000000 in
theorem w_Model_ledFrom_b52 {Γ : Ctx} {Q : Int32 → MI → MJ → Prop} {x1 : Int32} {x2 : Int32} {x3 : Int32} {x5 : Int32} {s0 : Int32} {s1 : Int32} {kh : Int32 → Int32 → MI → MJ → Prop} (X : Cx Γ cX11_ledFrom 7 RX11 2) (Y : Rt Γ (Pi Q) (Option.some Jvm.ClassFile.FieldType.int))  (hkh : ∀ (x4 : Int32) (x5 : Int32) (I : MI) (J : MJ), kh x4 x5 I J → Wp Γ 7 6 [(0, .ref (ad Γ 177)), (1, .int x1), (2, .int x2), (3, .int x3), (4, .int x4), (5, .int x5)] [] I J) {I : MI} {J : MJ} (h : f_Model_ledFrom_b52 x5 s0 s1 kh I J) : Wp Γ 7 52 [(0, .ref (ad Γ 177)), (1, .int x1), (2, .int x2), (3, .int x3), (5, .int x5)] [.int s1, .int s0] I J := by
  unfold f_Model_ledFrom_b52 at h
  refine wp_ior X dX11_ledFrom_52 ?_
  refine wp_topi (fun t53 et53 => ?_)
  have h := h t53 et53
  refine wp_istore (L' := [(4, .int t53), (0, .ref (ad Γ 177)), (1, .int x1), (2, .int x2), (3, .int x3), (5, .int x5)]) X dX11_ledFrom_53 (by decide) rfl ?_
  obtain ⟨t55, et55⟩ : ∃ y : Int32, y = x5 + 1 := ⟨_, rfl⟩
  have h := h t55 et55
  refine wp_iinc (L' := [(5, .int t55), (4, .int t53), (0, .ref (ad Γ 177)), (1, .int x1), (2, .int x2), (3, .int x3)]) X dX11_ledFrom_55 5 rfl (ii_1 et55) (by decide) rfl ?_
  refine wp_goto (tgt := 6) X dX11_ledFrom_58 (by decide) ?_
  refine wp_sub X [2, 3, 4, 5, 1, 0] rfl ?_
  exact hkh _ _ _ _ h

set_option maxRecDepth 100000 in
set_option maxHeartbeats 4000000 in
theorem w_Model_ledFrom_b51 {Γ : Ctx} {Q : Int32 → MI → MJ → Prop} {x1 : Int32} {x2 : Int32} {x3 : Int32} {x5 : Int32} {s0 : Int32} {kh : Int32 → Int32 → MI → MJ → Prop} (X : Cx Γ cX11_ledFrom 7 RX11 2) (Y : Rt Γ (Pi Q) (Option.some Jvm.ClassFile.FieldType.int))  (hkh : ∀ (x4 : Int32) (x5 : Int32) (I : MI) (J : MJ), kh x4 x5 I J → Wp Γ 7 6 [(0, .ref (ad Γ 177)), (1, .int x1), (2, .int x2), (3, .int x3), (4, .int x4), (5, .int x5)] [] I J) {I : MI} {J : MJ} (h : f_Model_ledFrom_b51 x5 s0 kh I J) : Wp Γ 7 51 [(0, .ref (ad Γ 177)), (1, .int x1), (2, .int x2), (3, .int x3), (5, .int x5)] [.int s0] I J := by
  unfold f_Model_ledFrom_b51 at h
  refine wp_iconst X dX11_ledFrom_51 ic_0 ?_
  exact w_Model_ledFrom_b52 X Y hkh h

set_option maxRecDepth 100000 in
set_option maxHeartbeats 4000000 in
theorem w_Model_ledFrom_L6 {Γ : Ctx} {Q : Int32 → MI → MJ → Prop} {x1 : Int32} {x2 : Int32} {x3 : Int32} {k61 : Int32 → MI → MJ → Prop} (X : Cx Γ cX11_ledFrom 7 RX11 2) (Y : Rt Γ (Pi Q) (Option.some Jvm.ClassFile.FieldType.int))  (hk61 : ∀ (x4 : Int32) (I : MI) (J : MJ), k61 x4 I J → Wp Γ 7 61 [(4, .int x4)] [] I J) : ∀ (n : Nat) (x4 : Int32) (x5 : Int32) (I : MI) (J : MJ), f_Model_ledFrom_L6 x1 x2 x3 k61 n x4 x5 I J → Wp Γ 7 6 [(0, .ref (ad Γ 177)), (1, .int x1), (2, .int x2), (3, .int x3), (4, .int x4), (5, .int x5)] [] I J := by
  intro n
  induction n with
  | zero => intro x4 x5 I J h; exact absurd h (by simp [f_Model_ledFrom_L6])
  | succ n ih =>
  intro x4 x5 I J h
  unfold f_Model_ledFrom_L6 at h
  refine wp_iload X dX11_ledFrom_6 5 rfl ?_
  refine wp_aload_n X dX11_ledFrom_8 0 rfl ?_
  refine gf_X11_33 (o' := 185) X sh_177 rfl dX11_ledFrom_9 ?_
  refine wp_iload_n X dX11_ledFrom_12 1 rfl ?_
  obtain ⟨hb13, h⟩ := h
  refine wp_iald X sh_185 hb13 dX11_ledFrom_13 ?_
  refine wp_icmp_ge (tgt := 61) X dX11_ledFrom_14 (by decide) (fun hc => ?_) (fun hc => ?_)
  · have h := ite_t h hc
    refine wp_sub X [4] rfl ?_
    exact hk61 _ _ _ h
  · have h := ite_f h hc
    refine wp_aload_n X dX11_ledFrom_17 0 rfl ?_
    refine wp_iload_n X dX11_ledFrom_18 1 rfl ?_
    refine wp_iload X dX11_ledFrom_19 5 rfl ?_
    refine wp_iload_n X dX11_ledFrom_21 3 rfl ?_
    refine cv_Model_leadsOf X dX11_ledFrom_22 ml_X11_273  h (Nat.le_of_ble_eq_true rfl) (by decide) (fun r22 I22 J22 h => ?_)
    refine wp_istore (L' := [(6, .int r22), (0, .ref (ad Γ 177)), (1, .int x1), (2, .int x2), (3, .int x3), (4, .int x4), (5, .int x5)]) X dX11_ledFrom_25 (by decide) rfl ?_
    refine wp_iload X dX11_ledFrom_27 5 rfl ?_
    refine wp_iload X dX11_ledFrom_29 0 rfl ?_
    refine wp_if_lt (tgt := 51) X dX11_ledFrom_31 (by decide) (fun hc => ?_) (fun hc => ?_)
    · have h := ite_t h hc
      refine wp_sub X [1, 2, 3, 4, 6] rfl ?_
      exact w_Model_ledFrom_b51 X Y ih h
    · have h := ite_f h hc
      refine wp_iload_n X dX11_ledFrom_34 3 rfl ?_
      refine wp_iload X dX11_ledFrom_35 0 rfl ?_
      refine wp_ishr X dX11_ledFrom_37 ?_
      refine wp_iconst X dX11_ledFrom_38 ic_1 ?_
      refine wp_iand X dX11_ledFrom_39 ?_
      refine wp_iconst X dX11_ledFrom_40 ic_1 ?_
      refine wp_icmp_ne (tgt := 51) X dX11_ledFrom_41 (by decide) (fun hc => ?_) (fun hc => ?_)
      · have h := ite_f h hc
        refine wp_sub X [1, 2, 3, 4, 6] rfl ?_
        exact w_Model_ledFrom_b51 X Y ih h
      · have h := ite_t h hc
        refine wp_iconst X dX11_ledFrom_44 ic_1 ?_
        refine wp_iload X dX11_ledFrom_45 6 rfl ?_
        refine wp_ishl X dX11_ledFrom_47 ?_
        refine wp_goto (tgt := 52) X dX11_ledFrom_48 (by decide) ?_
        refine wp_sub X [1, 2, 3, 4, 6] rfl ?_
        exact w_Model_ledFrom_b52 X Y ih h

set_option maxRecDepth 100000 in
set_option maxHeartbeats 4000000 in
theorem w_Model_ledFrom_b0 {Γ : Ctx} {Q : Int32 → MI → MJ → Prop} {x1 : Int32} {x2 : Int32} {x3 : Int32}  (X : Cx Γ cX11_ledFrom 7 RX11 2) (Y : Rt Γ (Pi Q) (Option.some Jvm.ClassFile.FieldType.int))   {I : MI} {J : MJ} (h : f_Model_ledFrom x1 x2 x3 I J Q) : Wp Γ 7 0 [(0, .ref (ad Γ 177)), (1, .int x1), (2, .int x2), (3, .int x3)] [] I J := by
  unfold f_Model_ledFrom at h
  refine wp_iconst X dX11_ledFrom_0 ic_0 ?_
  refine wp_istore (L' := [(4, .int 0), (0, .ref (ad Γ 177)), (1, .int x1), (2, .int x2), (3, .int x3)]) X dX11_ledFrom_1 (by decide) rfl ?_
  refine wp_iconst X dX11_ledFrom_3 ic_0 ?_
  refine wp_istore (L' := [(5, .int 0), (4, .int 0), (0, .ref (ad Γ 177)), (1, .int x1), (2, .int x2), (3, .int x3)]) X dX11_ledFrom_4 (by decide) rfl ?_
  obtain ⟨n, h⟩ := h
  refine wp_sub X [2, 3, 4, 5, 1, 0] rfl ?_
  refine w_Model_ledFrom_L6 X Y  ?_ n _ _ _ _ h
  · intro z61_x4 I J h
    refine wp_iload X dX11_ledFrom_61 0 rfl ?_
    exact wp_iret X Y dX11_ledFrom_63 ⟨_, rfl, h⟩

theorem c_Model_ledFrom {l : Launch} {g : GE} (hg : Inj g) {I : MI} {J : MJ} {Q : Int32 → MI → MJ → Prop} {x1 : Int32} {x2 : Int32} {x3 : Int32}  (h : f_Model_ledFrom x1 x2 x3 I J Q) : Cm l g yX11_ledFrom cX11_ledFrom 7 (Option.some Jvm.ClassFile.FieldType.int) 2 [.ref (g.1 177), .int x1, .int x2, .int x3] I J (Pi Q) := by
  refine Cm.of (As := fun ad => [.ref (ad 177), .int x1, .int x2, .int x3]) hg pn_X11 (Nat.le_of_ble_eq_true rfl) ?_
  exact (fun Γ _ _ X Y => w_Model_ledFrom_b0 X Y  h)
theorem cv_Model_ledFrom {Γ : Ctx} {cc : ByteArray} {nL d pc index : Nat} {own : String} {L : List (Nat × Value)} {rest : List Value} {I : MI} {J : MJ} {Q : Int32 → MI → MJ → Prop} {x1 : Int32} {x2 : Int32} {x3 : Int32} (X : Cx Γ cc nL own d) (hd : decode cc pc = .ok (.invokevirtual index, 3)) (hlink : Cond.methodLink own index yX11_ledFrom ∈ TT)  (h : f_Model_ledFrom x1 x2 x3 I J Q) (hrest : (rest.map fun v => v.category).sum ≤ 8) (hdd : 2 + 1 ≤ d) (kk : ∀ (r : Int32) (I' : MI) (J' : MJ), Q r I' J' → Wp Γ nL (pc + 3) L (.int r :: rest) I' J') : Wp Γ nL pc L (.int x3 :: .int x2 :: .int x1 :: .ref (ad Γ 177) :: rest) I J :=
  wp_callV (As := [.int x1, .int x2, .int x3]) (rest := rest) (T := TX11) (N := 62) X hd hlink mv_X11_ledFrom sh_177 (by decide) rfl (c_Model_ledFrom X.inj  h) rfl rfl hrest hdd (fun v I' J' hv => by obtain ⟨r, rfl, hq⟩ := hv; exact kk r I' J' hq)
theorem dX11_firstSet_0 : decode cX11_firstSet 0 = .ok (.aload_n 0, 1) := by decide +kernel
theorem dX11_firstSet_1 : decode cX11_firstSet 1 = .ok (.iconst 0, 1) := by decide +kernel
theorem dX11_firstSet_2 : decode cX11_firstSet 2 = .ok (.putfield 288, 3) := by decide +kernel
theorem dX11_firstSet_5 : decode cX11_firstSet 5 = .ok (.aload_n 0, 1) := by decide +kernel
theorem dX11_firstSet_6 : decode cX11_firstSet 6 = .ok (.iconst 0, 1) := by decide +kernel
theorem dX11_firstSet_7 : decode cX11_firstSet 7 = .ok (.putfield 291, 3) := by decide +kernel
theorem dX11_firstSet_10 : decode cX11_firstSet 10 = .ok (.iload_n 1, 1) := by decide +kernel
theorem dX11_firstSet_11 : decode cX11_firstSet 11 = .ok (.iconst 3, 1) := by decide +kernel
theorem dX11_firstSet_12 : decode cX11_firstSet 12 = .ok (.if_icmp .ne 25, 3) := by decide +kernel
theorem dX11_firstSet_15 : decode cX11_firstSet 15 = .ok (.aload_n 0, 1) := by decide +kernel
theorem dX11_firstSet_16 : decode cX11_firstSet 16 = .ok (.aload_n 0, 1) := by decide +kernel
theorem dX11_firstSet_17 : decode cX11_firstSet 17 = .ok (.bipush 18, 2) := by decide +kernel
theorem dX11_firstSet_19 : decode cX11_firstSet 19 = .ok (.iconst 0, 1) := by decide +kernel
theorem dX11_firstSet_20 : decode cX11_firstSet 20 = .ok (.invokevirtual 285, 3) := by decide +kernel
theorem dX11_firstSet_23 : decode cX11_firstSet 23 = .ok (.ifCond .eq 7, 3) := by decide +kernel
theorem dX11_firstSet_26 : decode cX11_firstSet 26 = .ok (.iconst 1, 1) := by decide +kernel
theorem dX11_firstSet_27 : decode cX11_firstSet 27 = .ok (.goto 4, 3) := by decide +kernel
theorem dX11_firstSet_30 : decode cX11_firstSet 30 = .ok (.iconst 0, 1) := by decide +kernel
theorem dX11_firstSet_31 : decode cX11_firstSet 31 = .ok (.putfield 291, 3) := by decide +kernel
theorem dX11_firstSet_34 : decode cX11_firstSet 34 = .ok (.goto 71, 3) := by decide +kernel
theorem dX11_firstSet_37 : decode cX11_firstSet 37 = .ok (.iload_n 1, 1) := by decide +kernel
theorem dX11_firstSet_38 : decode cX11_firstSet 38 = .ok (.iconst 4, 1) := by decide +kernel
theorem dX11_firstSet_39 : decode cX11_firstSet 39 = .ok (.if_icmp .ne 51, 3) := by decide +kernel
theorem dX11_firstSet_42 : decode cX11_firstSet 42 = .ok (.iconst 0, 1) := by decide +kernel
theorem dX11_firstSet_43 : decode cX11_firstSet 43 = .ok (.istore_n 2, 1) := by decide +kernel
theorem dX11_firstSet_44 : decode cX11_firstSet 44 = .ok (.iload_n 2, 1) := by decide +kernel
theorem dX11_firstSet_45 : decode cX11_firstSet 45 = .ok (.aload_n 0, 1) := by decide +kernel
theorem dX11_firstSet_46 : decode cX11_firstSet 46 = .ok (.getfield 33, 3) := by decide +kernel
theorem dX11_firstSet_49 : decode cX11_firstSet 49 = .ok (.bipush 18, 2) := by decide +kernel
theorem dX11_firstSet_51 : decode cX11_firstSet 51 = .ok (.iaload, 1) := by decide +kernel
theorem dX11_firstSet_52 : decode cX11_firstSet 52 = .ok (.if_icmp .ge 35, 3) := by decide +kernel
theorem dX11_firstSet_55 : decode cX11_firstSet 55 = .ok (.aload_n 0, 1) := by decide +kernel
theorem dX11_firstSet_56 : decode cX11_firstSet 56 = .ok (.dup, 1) := by decide +kernel
theorem dX11_firstSet_57 : decode cX11_firstSet 57 = .ok (.getfield 291, 3) := by decide +kernel
theorem dX11_firstSet_60 : decode cX11_firstSet 60 = .ok (.aload_n 0, 1) := by decide +kernel
theorem dX11_firstSet_61 : decode cX11_firstSet 61 = .ok (.bipush 18, 2) := by decide +kernel
theorem dX11_firstSet_63 : decode cX11_firstSet 63 = .ok (.iload_n 2, 1) := by decide +kernel
theorem dX11_firstSet_64 : decode cX11_firstSet 64 = .ok (.invokevirtual 285, 3) := by decide +kernel
theorem dX11_firstSet_67 : decode cX11_firstSet 67 = .ok (.ifCond .eq 9, 3) := by decide +kernel
theorem dX11_firstSet_70 : decode cX11_firstSet 70 = .ok (.iconst 1, 1) := by decide +kernel
theorem dX11_firstSet_71 : decode cX11_firstSet 71 = .ok (.iload_n 2, 1) := by decide +kernel
theorem dX11_firstSet_72 : decode cX11_firstSet 72 = .ok (.ishl, 1) := by decide +kernel
theorem dX11_firstSet_73 : decode cX11_firstSet 73 = .ok (.goto 4, 3) := by decide +kernel
theorem dX11_firstSet_76 : decode cX11_firstSet 76 = .ok (.iconst 0, 1) := by decide +kernel
theorem dX11_firstSet_77 : decode cX11_firstSet 77 = .ok (.ior, 1) := by decide +kernel
theorem dX11_firstSet_78 : decode cX11_firstSet 78 = .ok (.putfield 291, 3) := by decide +kernel
theorem dX11_firstSet_81 : decode cX11_firstSet 81 = .ok (.iinc 2 1, 3) := by decide +kernel
theorem dX11_firstSet_84 : decode cX11_firstSet 84 = .ok (.goto (-40), 3) := by decide +kernel
theorem dX11_firstSet_87 : decode cX11_firstSet 87 = .ok (.goto 18, 3) := by decide +kernel
theorem dX11_firstSet_90 : decode cX11_firstSet 90 = .ok (.iload_n 1, 1) := by decide +kernel
theorem dX11_firstSet_91 : decode cX11_firstSet 91 = .ok (.iconst 5, 1) := by decide +kernel
theorem dX11_firstSet_92 : decode cX11_firstSet 92 = .ok (.if_icmp .ne 13, 3) := by decide +kernel
theorem dX11_firstSet_95 : decode cX11_firstSet 95 = .ok (.aload_n 0, 1) := by decide +kernel
theorem dX11_firstSet_96 : decode cX11_firstSet 96 = .ok (.iconst 1, 1) := by decide +kernel
theorem dX11_firstSet_97 : decode cX11_firstSet 97 = .ok (.putfield 288, 3) := by decide +kernel
theorem dX11_firstSet_100 : decode cX11_firstSet 100 = .ok (.aload_n 0, 1) := by decide +kernel
theorem dX11_firstSet_101 : decode cX11_firstSet 101 = .ok (.iconst 1, 1) := by decide +kernel
theorem dX11_firstSet_102 : decode cX11_firstSet 102 = .ok (.putfield 291, 3) := by decide +kernel
theorem dX11_firstSet_105 : decode cX11_firstSet 105 = .ok (.return_, 1) := by decide +kernel
def f_Model_firstSet_b77 (x2 : Int32) (s1 : Int32) (s2 : Int32) (kh : Int32 → MI → MJ → Prop) (I : MI) (J : MJ) : Prop :=
  ∀ I78 : MI, I78 = sI I 177 (upd (I 177) 40 (s1 ||| s2)) → ∀ t81 : Int32, t81 = x2 + 1 → kh t81 I78 J
def f_Model_firstSet_L44 (k87 : MI → MJ → Prop) : Nat → Int32 → MI → MJ → Prop
  | 0, _, _, _ => False
  | nf44 + 1, x2, I, J =>
  vp_in 18 20 ∧ (if (I 185 (18 : Int32).toNatClampNeg) ≤ x2 then k87 I J else f_Model_isYesBy (18 : Int32) x2 I J (fun r64 I64 J64 => (if r64 = 0 then f_Model_firstSet_b77 x2 (I 177 40) 0 (f_Model_firstSet_L44 k87 nf44) I64 J64 else f_Model_firstSet_b77 x2 (I 177 40) (1 <<< (x2 &&& 31)) (f_Model_firstSet_L44 k87 nf44) I64 J64)))
def f_Model_firstSet_b31 (s1 : Int32) (Q : MI → MJ → Prop) (I : MI) (J : MJ) : Prop :=
  ∀ I31 : MI, I31 = sI I 177 (upd (I 177) 40 s1) → Q I31 J
def f_Model_firstSet (x1 : Int32) (I : MI) (J : MJ) (Q : MI → MJ → Prop) : Prop :=
  ∀ I2 : MI, I2 = sI I 177 (upd (I 177) 39 0) → ∀ I7 : MI, I7 = sI I2 177 (upd (I2 177) 40 0) → (if x1 = 3 then f_Model_isYesBy (18 : Int32) (0 : Int32) I7 J (fun r20 I20 J20 => (if r20 = 0 then f_Model_firstSet_b31 0 Q I20 J20 else f_Model_firstSet_b31 1 Q I20 J20)) else (if x1 = 4 then ∃ n, f_Model_firstSet_L44 (fun (I : MI) (J : MJ) => Q I J) n 0 I7 J else (if x1 = 5 then ∀ I97 : MI, I97 = sI I7 177 (upd (I7 177) 39 1) → ∀ I102 : MI, I102 = sI I97 177 (upd (I97 177) 40 1) → Q I102 J else Q I7 J)))
set_option maxRecDepth 100000 in
set_option maxHeartbeats 4000000 in
theorem w_Model_firstSet_b77 {Γ : Ctx} {Q : MI → MJ → Prop} {x2 : Int32} {s1 : Int32} {s2 : Int32} {kh : Int32 → MI → MJ → Prop} (X : Cx Γ cX11_firstSet 3 RX11 1) (Y : Rt Γ (Pv Q) (Option.none : Option Jvm.ClassFile.FieldType))  (hkh : ∀ (x2 : Int32) (I : MI) (J : MJ), kh x2 I J → Wp Γ 3 44 [(0, .ref (ad Γ 177)), (2, .int x2)] [] I J) {I : MI} {J : MJ} (h : f_Model_firstSet_b77 x2 s1 s2 kh I J) : Wp Γ 3 77 [(0, .ref (ad Γ 177)), (2, .int x2)] [.int s2, .int s1, .ref (ad Γ 177)] I J := by
  unfold f_Model_firstSet_b77 at h
  refine wp_ior X dX11_firstSet_77 ?_
  refine pf_X11_291 X sh_177 dX11_firstSet_78 (fun I78 eI78 => ?_)
  have h := h I78 eI78
  obtain ⟨t81, et81⟩ : ∃ y : Int32, y = x2 + 1 := ⟨_, rfl⟩
  have h := h t81 et81
  refine wp_iinc (L' := [(2, .int t81), (0, .ref (ad Γ 177))]) X dX11_firstSet_81 1 rfl (ii_1 et81) (by decide) rfl ?_
  refine wp_goto (tgt := 44) X dX11_firstSet_84 (by decide) ?_
  refine wp_sub X [1, 0] rfl ?_
  exact hkh _ _ _ h

set_option maxRecDepth 100000 in
set_option maxHeartbeats 4000000 in
theorem w_Model_firstSet_L44 {Γ : Ctx} {Q : MI → MJ → Prop}  {k87 : MI → MJ → Prop} (X : Cx Γ cX11_firstSet 3 RX11 1) (Y : Rt Γ (Pv Q) (Option.none : Option Jvm.ClassFile.FieldType))  (hk87 : ∀ (I : MI) (J : MJ), k87 I J → Wp Γ 3 87 [] [] I J) : ∀ (n : Nat) (x2 : Int32) (I : MI) (J : MJ), f_Model_firstSet_L44 k87 n x2 I J → Wp Γ 3 44 [(0, .ref (ad Γ 177)), (2, .int x2)] [] I J := by
  intro n
  induction n with
  | zero => intro x2 I J h; exact absurd h (by simp [f_Model_firstSet_L44])
  | succ n ih =>
  intro x2 I J h
  unfold f_Model_firstSet_L44 at h
  refine wp_iload_n X dX11_firstSet_44 1 rfl ?_
  refine wp_aload_n X dX11_firstSet_45 0 rfl ?_
  refine gf_X11_33 (o' := 185) X sh_177 rfl dX11_firstSet_46 ?_
  refine wp_bipush X dX11_firstSet_49 bi_18 ?_
  obtain ⟨hb51, h⟩ := h
  refine wp_iald X sh_185 hb51 dX11_firstSet_51 ?_
  refine wp_icmp_ge (tgt := 87) X dX11_firstSet_52 (by decide) (fun hc => ?_) (fun hc => ?_)
  · have h := ite_t h hc
    refine wp_sub X [] rfl ?_
    exact hk87 _ _ h
  · have h := ite_f h hc
    refine wp_aload_n X dX11_firstSet_55 0 rfl ?_
    refine wp_dup X dX11_firstSet_56 rfl ?_
    refine gf_X11_291 X sh_177 dX11_firstSet_57 ?_
    refine wp_aload_n X dX11_firstSet_60 0 rfl ?_
    refine wp_bipush X dX11_firstSet_61 bi_18 ?_
    refine wp_iload_n X dX11_firstSet_63 1 rfl ?_
    refine cv_Model_isYesBy X dX11_firstSet_64 ml_X11_285  h (Nat.le_of_ble_eq_true rfl) (by decide) (fun r64 I64 J64 h => ?_)
    refine wp_if_eq (tgt := 76) X dX11_firstSet_67 (by decide) (fun hc => ?_) (fun hc => ?_)
    · have h := ite_t h hc
      refine wp_iconst X dX11_firstSet_76 ic_0 ?_
      exact w_Model_firstSet_b77 X Y ih h
    · have h := ite_f h hc
      refine wp_iconst X dX11_firstSet_70 ic_1 ?_
      refine wp_iload_n X dX11_firstSet_71 1 rfl ?_
      refine wp_ishl X dX11_firstSet_72 ?_
      refine wp_goto (tgt := 77) X dX11_firstSet_73 (by decide) ?_
      exact w_Model_firstSet_b77 X Y ih h

set_option maxRecDepth 100000 in
set_option maxHeartbeats 4000000 in
theorem w_Model_firstSet_b31 {Γ : Ctx} {Q : MI → MJ → Prop} {s1 : Int32}  (X : Cx Γ cX11_firstSet 3 RX11 1) (Y : Rt Γ (Pv Q) (Option.none : Option Jvm.ClassFile.FieldType))   {I : MI} {J : MJ} (h : f_Model_firstSet_b31 s1 Q I J) : Wp Γ 3 31 [] [.int s1, .ref (ad Γ 177)] I J := by
  unfold f_Model_firstSet_b31 at h
  refine pf_X11_291 X sh_177 dX11_firstSet_31 (fun I31 eI31 => ?_)
  have h := h I31 eI31
  refine wp_goto (tgt := 105) X dX11_firstSet_34 (by decide) ?_
  exact wp_vret X Y dX11_firstSet_105 ⟨rfl, h⟩

set_option maxRecDepth 100000 in
set_option maxHeartbeats 4000000 in
theorem w_Model_firstSet_b0 {Γ : Ctx} {Q : MI → MJ → Prop} {x1 : Int32}  (X : Cx Γ cX11_firstSet 3 RX11 1) (Y : Rt Γ (Pv Q) (Option.none : Option Jvm.ClassFile.FieldType))   {I : MI} {J : MJ} (h : f_Model_firstSet x1 I J Q) : Wp Γ 3 0 [(0, .ref (ad Γ 177)), (1, .int x1)] [] I J := by
  unfold f_Model_firstSet at h
  refine wp_aload_n X dX11_firstSet_0 0 rfl ?_
  refine wp_iconst X dX11_firstSet_1 ic_0 ?_
  refine pf_X11_288 X sh_177 dX11_firstSet_2 (fun I2 eI2 => ?_)
  have h := h I2 eI2
  refine wp_aload_n X dX11_firstSet_5 0 rfl ?_
  refine wp_iconst X dX11_firstSet_6 ic_0 ?_
  refine pf_X11_291 X sh_177 dX11_firstSet_7 (fun I7 eI7 => ?_)
  have h := h I7 eI7
  refine wp_iload_n X dX11_firstSet_10 1 rfl ?_
  refine wp_iconst X dX11_firstSet_11 ic_3 ?_
  refine wp_icmp_ne (tgt := 37) X dX11_firstSet_12 (by decide) (fun hc => ?_) (fun hc => ?_)
  · have h := ite_f h hc
    refine wp_iload_n X dX11_firstSet_37 1 rfl ?_
    refine wp_iconst X dX11_firstSet_38 ic_4 ?_
    refine wp_icmp_ne (tgt := 90) X dX11_firstSet_39 (by decide) (fun hc => ?_) (fun hc => ?_)
    · have h := ite_f h hc
      refine wp_iload_n X dX11_firstSet_90 1 rfl ?_
      refine wp_iconst X dX11_firstSet_91 ic_5 ?_
      refine wp_icmp_ne (tgt := 105) X dX11_firstSet_92 (by decide) (fun hc => ?_) (fun hc => ?_)
      · have h := ite_f h hc
        exact wp_vret X Y dX11_firstSet_105 ⟨rfl, h⟩
      · have h := ite_t h hc
        refine wp_aload_n X dX11_firstSet_95 0 rfl ?_
        refine wp_iconst X dX11_firstSet_96 ic_1 ?_
        refine pf_X11_288 X sh_177 dX11_firstSet_97 (fun I97 eI97 => ?_)
        have h := h I97 eI97
        refine wp_aload_n X dX11_firstSet_100 0 rfl ?_
        refine wp_iconst X dX11_firstSet_101 ic_1 ?_
        refine pf_X11_291 X sh_177 dX11_firstSet_102 (fun I102 eI102 => ?_)
        have h := h I102 eI102
        exact wp_vret X Y dX11_firstSet_105 ⟨rfl, h⟩
    · have h := ite_t h hc
      refine wp_iconst X dX11_firstSet_42 ic_0 ?_
      refine wp_istore_n (L' := [(2, .int 0), (0, .ref (ad Γ 177)), (1, .int x1)]) X dX11_firstSet_43 rfl (by decide) rfl ?_
      obtain ⟨n, h⟩ := h
      refine wp_sub X [1, 0] rfl ?_
      refine w_Model_firstSet_L44 X Y  ?_ n _ _ _ h
      · intro I J h
        refine wp_goto (tgt := 105) X dX11_firstSet_87 (by decide) ?_
        exact wp_vret X Y dX11_firstSet_105 ⟨rfl, h⟩
  · have h := ite_t h hc
    refine wp_aload_n X dX11_firstSet_15 0 rfl ?_
    refine wp_aload_n X dX11_firstSet_16 0 rfl ?_
    refine wp_bipush X dX11_firstSet_17 bi_18 ?_
    refine wp_iconst X dX11_firstSet_19 ic_0 ?_
    refine cv_Model_isYesBy X dX11_firstSet_20 ml_X11_285  h (Nat.le_of_ble_eq_true rfl) (by decide) (fun r20 I20 J20 h => ?_)
    refine wp_if_eq (tgt := 30) X dX11_firstSet_23 (by decide) (fun hc => ?_) (fun hc => ?_)
    · have h := ite_t h hc
      refine wp_iconst X dX11_firstSet_30 ic_0 ?_
      refine wp_sub X [] rfl ?_
      exact w_Model_firstSet_b31 X Y  h
    · have h := ite_f h hc
      refine wp_iconst X dX11_firstSet_26 ic_1 ?_
      refine wp_goto (tgt := 31) X dX11_firstSet_27 (by decide) ?_
      refine wp_sub X [] rfl ?_
      exact w_Model_firstSet_b31 X Y  h

theorem c_Model_firstSet {l : Launch} {g : GE} (hg : Inj g) {I : MI} {J : MJ} {Q : MI → MJ → Prop} {x1 : Int32}  (h : f_Model_firstSet x1 I J Q) : Cm l g yX11_firstSet cX11_firstSet 3 (Option.none : Option Jvm.ClassFile.FieldType) 1 [.ref (g.1 177), .int x1] I J (Pv Q) := by
  refine Cm.of (As := fun ad => [.ref (ad 177), .int x1]) hg pn_X11 (Nat.le_of_ble_eq_true rfl) ?_
  exact (fun Γ _ _ X Y => w_Model_firstSet_b0 X Y  h)
theorem cv_Model_firstSet {Γ : Ctx} {cc : ByteArray} {nL d pc index : Nat} {own : String} {L : List (Nat × Value)} {rest : List Value} {I : MI} {J : MJ} {Q : MI → MJ → Prop} {x1 : Int32} (X : Cx Γ cc nL own d) (hd : decode cc pc = .ok (.invokevirtual index, 3)) (hlink : Cond.methodLink own index yX11_firstSet ∈ TT)  (h : f_Model_firstSet x1 I J Q) (hrest : (rest.map fun v => v.category).sum ≤ 8) (hdd : 1 + 1 ≤ d) (kk : ∀ (I' : MI) (J' : MJ), Q I' J' → Wp Γ nL (pc + 3) L rest I' J') : Wp Γ nL pc L (.int x1 :: .ref (ad Γ 177) :: rest) I J :=
  wp_callV (As := [.int x1]) (rest := rest) (T := TX11) (N := 62) X hd hlink mv_X11_firstSet sh_177 (by decide) rfl (c_Model_firstSet X.inj  h) rfl rfl hrest hdd (fun v I' J' hv => by obtain ⟨rfl, hq⟩ := hv; exact kk I' J' hq)
theorem dX11_nextSet_0 : decode cX11_nextSet 0 = .ok (.aload_n 0, 1) := by decide +kernel
theorem dX11_nextSet_1 : decode cX11_nextSet 1 = .ok (.aload_n 0, 1) := by decide +kernel
theorem dX11_nextSet_2 : decode cX11_nextSet 2 = .ok (.getfield 93, 3) := by decide +kernel
theorem dX11_nextSet_5 : decode cX11_nextSet 5 = .ok (.iload_n 2, 1) := by decide +kernel
theorem dX11_nextSet_6 : decode cX11_nextSet 6 = .ok (.iaload, 1) := by decide +kernel
theorem dX11_nextSet_7 : decode cX11_nextSet 7 = .ok (.putfield 288, 3) := by decide +kernel
theorem dX11_nextSet_10 : decode cX11_nextSet 10 = .ok (.aload_n 0, 1) := by decide +kernel
theorem dX11_nextSet_11 : decode cX11_nextSet 11 = .ok (.aload_n 0, 1) := by decide +kernel
theorem dX11_nextSet_12 : decode cX11_nextSet 12 = .ok (.getfield 96, 3) := by decide +kernel
theorem dX11_nextSet_15 : decode cX11_nextSet 15 = .ok (.iload_n 2, 1) := by decide +kernel
theorem dX11_nextSet_16 : decode cX11_nextSet 16 = .ok (.iaload, 1) := by decide +kernel
theorem dX11_nextSet_17 : decode cX11_nextSet 17 = .ok (.putfield 291, 3) := by decide +kernel
theorem dX11_nextSet_20 : decode cX11_nextSet 20 = .ok (.iload_n 1, 1) := by decide +kernel
theorem dX11_nextSet_21 : decode cX11_nextSet 21 = .ok (.tableswitch 156 0 4 #[35, 35, 68, 86, 138], 35) := by decide +kernel
theorem dX11_nextSet_56 : decode cX11_nextSet 56 = .ok (.aload_n 0, 1) := by decide +kernel
theorem dX11_nextSet_57 : decode cX11_nextSet 57 = .ok (.aload_n 0, 1) := by decide +kernel
theorem dX11_nextSet_58 : decode cX11_nextSet 58 = .ok (.bipush 18, 2) := by decide +kernel
theorem dX11_nextSet_60 : decode cX11_nextSet 60 = .ok (.aload_n 0, 1) := by decide +kernel
theorem dX11_nextSet_61 : decode cX11_nextSet 61 = .ok (.getfield 288, 3) := by decide +kernel
theorem dX11_nextSet_64 : decode cX11_nextSet 64 = .ok (.iload_n 3, 1) := by decide +kernel
theorem dX11_nextSet_65 : decode cX11_nextSet 65 = .ok (.invokevirtual 273, 3) := by decide +kernel
theorem dX11_nextSet_68 : decode cX11_nextSet 68 = .ok (.putfield 288, 3) := by decide +kernel
theorem dX11_nextSet_71 : decode cX11_nextSet 71 = .ok (.aload_n 0, 1) := by decide +kernel
theorem dX11_nextSet_72 : decode cX11_nextSet 72 = .ok (.aload_n 0, 1) := by decide +kernel
theorem dX11_nextSet_73 : decode cX11_nextSet 73 = .ok (.bipush 19, 2) := by decide +kernel
theorem dX11_nextSet_75 : decode cX11_nextSet 75 = .ok (.aload_n 0, 1) := by decide +kernel
theorem dX11_nextSet_76 : decode cX11_nextSet 76 = .ok (.getfield 291, 3) := by decide +kernel
theorem dX11_nextSet_79 : decode cX11_nextSet 79 = .ok (.iload_n 3, 1) := by decide +kernel
theorem dX11_nextSet_80 : decode cX11_nextSet 80 = .ok (.invokevirtual 273, 3) := by decide +kernel
theorem dX11_nextSet_83 : decode cX11_nextSet 83 = .ok (.putfield 291, 3) := by decide +kernel
theorem dX11_nextSet_86 : decode cX11_nextSet 86 = .ok (.goto 138, 3) := by decide +kernel
theorem dX11_nextSet_89 : decode cX11_nextSet 89 = .ok (.aload_n 0, 1) := by decide +kernel
theorem dX11_nextSet_90 : decode cX11_nextSet 90 = .ok (.aload_n 0, 1) := by decide +kernel
theorem dX11_nextSet_91 : decode cX11_nextSet 91 = .ok (.bipush 18, 2) := by decide +kernel
theorem dX11_nextSet_93 : decode cX11_nextSet 93 = .ok (.aload_n 0, 1) := by decide +kernel
theorem dX11_nextSet_94 : decode cX11_nextSet 94 = .ok (.getfield 288, 3) := by decide +kernel
theorem dX11_nextSet_97 : decode cX11_nextSet 97 = .ok (.iload_n 3, 1) := by decide +kernel
theorem dX11_nextSet_98 : decode cX11_nextSet 98 = .ok (.invokevirtual 273, 3) := by decide +kernel
theorem dX11_nextSet_101 : decode cX11_nextSet 101 = .ok (.putfield 288, 3) := by decide +kernel
theorem dX11_nextSet_104 : decode cX11_nextSet 104 = .ok (.goto 120, 3) := by decide +kernel
theorem dX11_nextSet_107 : decode cX11_nextSet 107 = .ok (.aload_n 0, 1) := by decide +kernel
theorem dX11_nextSet_108 : decode cX11_nextSet 108 = .ok (.aload_n 0, 1) := by decide +kernel
theorem dX11_nextSet_109 : decode cX11_nextSet 109 = .ok (.bipush 18, 2) := by decide +kernel
theorem dX11_nextSet_111 : decode cX11_nextSet 111 = .ok (.aload_n 0, 1) := by decide +kernel
theorem dX11_nextSet_112 : decode cX11_nextSet 112 = .ok (.getfield 288, 3) := by decide +kernel
theorem dX11_nextSet_115 : decode cX11_nextSet 115 = .ok (.iload_n 3, 1) := by decide +kernel
theorem dX11_nextSet_116 : decode cX11_nextSet 116 = .ok (.invokevirtual 273, 3) := by decide +kernel
theorem dX11_nextSet_119 : decode cX11_nextSet 119 = .ok (.putfield 288, 3) := by decide +kernel
theorem dX11_nextSet_122 : decode cX11_nextSet 122 = .ok (.aload_n 0, 1) := by decide +kernel
theorem dX11_nextSet_123 : decode cX11_nextSet 123 = .ok (.aload_n 0, 1) := by decide +kernel
theorem dX11_nextSet_124 : decode cX11_nextSet 124 = .ok (.bipush 19, 2) := by decide +kernel
theorem dX11_nextSet_126 : decode cX11_nextSet 126 = .ok (.aload_n 0, 1) := by decide +kernel
theorem dX11_nextSet_127 : decode cX11_nextSet 127 = .ok (.getfield 291, 3) := by decide +kernel
theorem dX11_nextSet_130 : decode cX11_nextSet 130 = .ok (.iload_n 3, 1) := by decide +kernel
theorem dX11_nextSet_131 : decode cX11_nextSet 131 = .ok (.invokevirtual 294, 3) := by decide +kernel
theorem dX11_nextSet_134 : decode cX11_nextSet 134 = .ok (.aload_n 0, 1) := by decide +kernel
theorem dX11_nextSet_135 : decode cX11_nextSet 135 = .ok (.bipush 18, 2) := by decide +kernel
theorem dX11_nextSet_137 : decode cX11_nextSet 137 = .ok (.aload_n 0, 1) := by decide +kernel
theorem dX11_nextSet_138 : decode cX11_nextSet 138 = .ok (.getfield 288, 3) := by decide +kernel
theorem dX11_nextSet_141 : decode cX11_nextSet 141 = .ok (.invokevirtual 285, 3) := by decide +kernel
theorem dX11_nextSet_144 : decode cX11_nextSet 144 = .ok (.ifCond .eq 7, 3) := by decide +kernel
theorem dX11_nextSet_147 : decode cX11_nextSet 147 = .ok (.iconst 1, 1) := by decide +kernel
theorem dX11_nextSet_148 : decode cX11_nextSet 148 = .ok (.goto 4, 3) := by decide +kernel
theorem dX11_nextSet_151 : decode cX11_nextSet 151 = .ok (.iconst 0, 1) := by decide +kernel
theorem dX11_nextSet_152 : decode cX11_nextSet 152 = .ok (.ior, 1) := by decide +kernel
theorem dX11_nextSet_153 : decode cX11_nextSet 153 = .ok (.putfield 291, 3) := by decide +kernel
theorem dX11_nextSet_156 : decode cX11_nextSet 156 = .ok (.goto 68, 3) := by decide +kernel
theorem dX11_nextSet_159 : decode cX11_nextSet 159 = .ok (.aload_n 0, 1) := by decide +kernel
theorem dX11_nextSet_160 : decode cX11_nextSet 160 = .ok (.aload_n 0, 1) := by decide +kernel
theorem dX11_nextSet_161 : decode cX11_nextSet 161 = .ok (.bipush 18, 2) := by decide +kernel
theorem dX11_nextSet_163 : decode cX11_nextSet 163 = .ok (.aload_n 0, 1) := by decide +kernel
theorem dX11_nextSet_164 : decode cX11_nextSet 164 = .ok (.getfield 291, 3) := by decide +kernel
theorem dX11_nextSet_167 : decode cX11_nextSet 167 = .ok (.iload_n 3, 1) := by decide +kernel
theorem dX11_nextSet_168 : decode cX11_nextSet 168 = .ok (.invokevirtual 297, 3) := by decide +kernel
theorem dX11_nextSet_171 : decode cX11_nextSet 171 = .ok (.putfield 291, 3) := by decide +kernel
theorem dX11_nextSet_174 : decode cX11_nextSet 174 = .ok (.goto 50, 3) := by decide +kernel
theorem dX11_nextSet_177 : decode cX11_nextSet 177 = .ok (.aload_n 0, 1) := by decide +kernel
theorem dX11_nextSet_178 : decode cX11_nextSet 178 = .ok (.iconst 0, 1) := by decide +kernel
theorem dX11_nextSet_179 : decode cX11_nextSet 179 = .ok (.putfield 288, 3) := by decide +kernel
theorem dX11_nextSet_182 : decode cX11_nextSet 182 = .ok (.aload_n 0, 1) := by decide +kernel
theorem dX11_nextSet_183 : decode cX11_nextSet 183 = .ok (.aload_n 0, 1) := by decide +kernel
theorem dX11_nextSet_184 : decode cX11_nextSet 184 = .ok (.bipush 18, 2) := by decide +kernel
theorem dX11_nextSet_186 : decode cX11_nextSet 186 = .ok (.aload_n 0, 1) := by decide +kernel
theorem dX11_nextSet_187 : decode cX11_nextSet 187 = .ok (.getfield 291, 3) := by decide +kernel
theorem dX11_nextSet_190 : decode cX11_nextSet 190 = .ok (.iload_n 3, 1) := by decide +kernel
theorem dX11_nextSet_191 : decode cX11_nextSet 191 = .ok (.invokevirtual 294, 3) := by decide +kernel
theorem dX11_nextSet_194 : decode cX11_nextSet 194 = .ok (.putfield 291, 3) := by decide +kernel
theorem dX11_nextSet_197 : decode cX11_nextSet 197 = .ok (.aload_n 0, 1) := by decide +kernel
theorem dX11_nextSet_198 : decode cX11_nextSet 198 = .ok (.dup, 1) := by decide +kernel
theorem dX11_nextSet_199 : decode cX11_nextSet 199 = .ok (.getfield 291, 3) := by decide +kernel
theorem dX11_nextSet_202 : decode cX11_nextSet 202 = .ok (.aload_n 0, 1) := by decide +kernel
theorem dX11_nextSet_203 : decode cX11_nextSet 203 = .ok (.bipush 18, 2) := by decide +kernel
theorem dX11_nextSet_205 : decode cX11_nextSet 205 = .ok (.aload_n 0, 1) := by decide +kernel
theorem dX11_nextSet_206 : decode cX11_nextSet 206 = .ok (.getfield 291, 3) := by decide +kernel
theorem dX11_nextSet_209 : decode cX11_nextSet 209 = .ok (.invokevirtual 300, 3) := by decide +kernel
theorem dX11_nextSet_212 : decode cX11_nextSet 212 = .ok (.ifCond .eq 7, 3) := by decide +kernel
theorem dX11_nextSet_215 : decode cX11_nextSet 215 = .ok (.iconst 1, 1) := by decide +kernel
theorem dX11_nextSet_216 : decode cX11_nextSet 216 = .ok (.goto 4, 3) := by decide +kernel
theorem dX11_nextSet_219 : decode cX11_nextSet 219 = .ok (.iconst 0, 1) := by decide +kernel
theorem dX11_nextSet_220 : decode cX11_nextSet 220 = .ok (.ior, 1) := by decide +kernel
theorem dX11_nextSet_221 : decode cX11_nextSet 221 = .ok (.putfield 291, 3) := by decide +kernel
theorem dX11_nextSet_224 : decode cX11_nextSet 224 = .ok (.return_, 1) := by decide +kernel
def f_Model_nextSet_b220 (s1 : Int32) (s2 : Int32) (Q : MI → MJ → Prop) (I : MI) (J : MJ) : Prop :=
  ∀ I221 : MI, I221 = sI I 177 (upd (I 177) 40 (s1 ||| s2)) → Q I221 J
def f_Model_nextSet_b152 (s1 : Int32) (s2 : Int32) (Q : MI → MJ → Prop) (I : MI) (J : MJ) : Prop :=
  ∀ I153 : MI, I153 = sI I 177 (upd (I 177) 40 (s1 ||| s2)) → Q I153 J
def f_Model_nextSet (x1 : Int32) (x2 : Int32) (x3 : Int32) (I : MI) (J : MJ) (Q : MI → MJ → Prop) : Prop :=
  vp_in x2 512 ∧ ∀ I7 : MI, I7 = sI I 177 (upd (I 177) 39 (I 205 x2.toNatClampNeg)) → vp_in x2 512 ∧ ∀ I17 : MI, I17 = sI I7 177 (upd (I7 177) 40 (I7 206 x2.toNatClampNeg)) → (if x1 = 0 then f_Model_leadsOf (18 : Int32) (I17 177 39) x3 I17 J (fun r65 I65 J65 => ∀ I68 : MI, I68 = sI I65 177 (upd (I65 177) 39 r65) → f_Model_leadsOf (19 : Int32) (I68 177 40) x3 I68 J65 (fun r80 I80 J80 => ∀ I83 : MI, I83 = sI I80 177 (upd (I80 177) 40 r80) → Q I83 J80)) else (if x1 = 1 then f_Model_leadsOf (18 : Int32) (I17 177 39) x3 I17 J (fun r65 I65 J65 => ∀ I68 : MI, I68 = sI I65 177 (upd (I65 177) 39 r65) → f_Model_leadsOf (19 : Int32) (I68 177 40) x3 I68 J65 (fun r80 I80 J80 => ∀ I83 : MI, I83 = sI I80 177 (upd (I80 177) 40 r80) → Q I83 J80)) else (if x1 = 2 then f_Model_leadsOf (18 : Int32) (I17 177 39) x3 I17 J (fun r98 I98 J98 => ∀ I101 : MI, I101 = sI I98 177 (upd (I98 177) 39 r98) → Q I101 J98) else (if x1 = 3 then f_Model_leadsOf (18 : Int32) (I17 177 39) x3 I17 J (fun r116 I116 J116 => ∀ I119 : MI, I119 = sI I116 177 (upd (I116 177) 39 r116) → f_Model_ledTo (19 : Int32) (I119 177 40) x3 I119 J116 (fun r131 I131 J131 => f_Model_isYesBy (18 : Int32) (I131 177 39) I131 J131 (fun r141 I141 J141 => (if r141 = 0 then f_Model_nextSet_b152 r131 0 Q I141 J141 else f_Model_nextSet_b152 r131 1 Q I141 J141)))) else (if x1 = 4 then f_Model_ledFrom (18 : Int32) (I17 177 40) x3 I17 J (fun r168 I168 J168 => ∀ I171 : MI, I171 = sI I168 177 (upd (I168 177) 40 r168) → Q I171 J168) else ∀ I179 : MI, I179 = sI I17 177 (upd (I17 177) 39 0) → f_Model_ledTo (18 : Int32) (I179 177 40) x3 I179 J (fun r191 I191 J191 => ∀ I194 : MI, I194 = sI I191 177 (upd (I191 177) 40 r191) → f_Model_anyYes (18 : Int32) (I194 177 40) I194 J191 (fun r209 I209 J209 => (if r209 = 0 then f_Model_nextSet_b220 (I194 177 40) 0 Q I209 J209 else f_Model_nextSet_b220 (I194 177 40) 1 Q I209 J209))))))))
set_option maxRecDepth 100000 in
set_option maxHeartbeats 4000000 in
theorem w_Model_nextSet_b220 {Γ : Ctx} {Q : MI → MJ → Prop} {s1 : Int32} {s2 : Int32}  (X : Cx Γ cX11_nextSet 4 RX11 3) (Y : Rt Γ (Pv Q) (Option.none : Option Jvm.ClassFile.FieldType))   {I : MI} {J : MJ} (h : f_Model_nextSet_b220 s1 s2 Q I J) : Wp Γ 4 220 [] [.int s2, .int s1, .ref (ad Γ 177)] I J := by
  unfold f_Model_nextSet_b220 at h
  refine wp_ior X dX11_nextSet_220 ?_
  refine pf_X11_291 X sh_177 dX11_nextSet_221 (fun I221 eI221 => ?_)
  have h := h I221 eI221
  exact wp_vret X Y dX11_nextSet_224 ⟨rfl, h⟩

set_option maxRecDepth 100000 in
set_option maxHeartbeats 4000000 in
theorem w_Model_nextSet_b152 {Γ : Ctx} {Q : MI → MJ → Prop} {s1 : Int32} {s2 : Int32}  (X : Cx Γ cX11_nextSet 4 RX11 3) (Y : Rt Γ (Pv Q) (Option.none : Option Jvm.ClassFile.FieldType))   {I : MI} {J : MJ} (h : f_Model_nextSet_b152 s1 s2 Q I J) : Wp Γ 4 152 [] [.int s2, .int s1, .ref (ad Γ 177)] I J := by
  unfold f_Model_nextSet_b152 at h
  refine wp_ior X dX11_nextSet_152 ?_
  refine pf_X11_291 X sh_177 dX11_nextSet_153 (fun I153 eI153 => ?_)
  have h := h I153 eI153
  refine wp_goto (tgt := 224) X dX11_nextSet_156 (by decide) ?_
  exact wp_vret X Y dX11_nextSet_224 ⟨rfl, h⟩

set_option maxRecDepth 100000 in
set_option maxHeartbeats 4000000 in
theorem w_Model_nextSet_b0 {Γ : Ctx} {Q : MI → MJ → Prop} {x1 : Int32} {x2 : Int32} {x3 : Int32}  (X : Cx Γ cX11_nextSet 4 RX11 3) (Y : Rt Γ (Pv Q) (Option.none : Option Jvm.ClassFile.FieldType))   {I : MI} {J : MJ} (h : f_Model_nextSet x1 x2 x3 I J Q) : Wp Γ 4 0 [(0, .ref (ad Γ 177)), (1, .int x1), (2, .int x2), (3, .int x3)] [] I J := by
  unfold f_Model_nextSet at h
  refine wp_aload_n X dX11_nextSet_0 0 rfl ?_
  refine wp_aload_n X dX11_nextSet_1 0 rfl ?_
  refine gf_X11_93 (o' := 205) X sh_177 rfl dX11_nextSet_2 ?_
  refine wp_iload_n X dX11_nextSet_5 2 rfl ?_
  obtain ⟨hb6, h⟩ := h
  refine wp_iald X sh_205 hb6 dX11_nextSet_6 ?_
  refine pf_X11_288 X sh_177 dX11_nextSet_7 (fun I7 eI7 => ?_)
  have h := h I7 eI7
  refine wp_aload_n X dX11_nextSet_10 0 rfl ?_
  refine wp_aload_n X dX11_nextSet_11 0 rfl ?_
  refine gf_X11_96 (o' := 206) X sh_177 rfl dX11_nextSet_12 ?_
  refine wp_iload_n X dX11_nextSet_15 2 rfl ?_
  obtain ⟨hb16, h⟩ := h
  refine wp_iald X sh_206 hb16 dX11_nextSet_16 ?_
  refine pf_X11_291 X sh_177 dX11_nextSet_17 (fun I17 eI17 => ?_)
  have h := h I17 eI17
  refine wp_iload_n X dX11_nextSet_20 1 rfl ?_
  by_cases hs0 : x1 = 0
  · have h := ite_t h hs0
    refine wp_tab (tgt := 56) (y := 0) X dX11_nextSet_21 hs0 (by decide) (by decide) rfl (by decide) ?_
    refine wp_aload_n X dX11_nextSet_56 0 rfl ?_
    refine wp_aload_n X dX11_nextSet_57 0 rfl ?_
    refine wp_bipush X dX11_nextSet_58 bi_18 ?_
    refine wp_aload_n X dX11_nextSet_60 0 rfl ?_
    refine gf_X11_288 X sh_177 dX11_nextSet_61 ?_
    refine wp_iload_n X dX11_nextSet_64 3 rfl ?_
    refine cv_Model_leadsOf X dX11_nextSet_65 ml_X11_273  h (Nat.le_of_ble_eq_true rfl) (by decide) (fun r65 I65 J65 h => ?_)
    refine pf_X11_288 X sh_177 dX11_nextSet_68 (fun I68 eI68 => ?_)
    have h := h I68 eI68
    refine wp_aload_n X dX11_nextSet_71 0 rfl ?_
    refine wp_aload_n X dX11_nextSet_72 0 rfl ?_
    refine wp_bipush X dX11_nextSet_73 bi_19 ?_
    refine wp_aload_n X dX11_nextSet_75 0 rfl ?_
    refine gf_X11_291 X sh_177 dX11_nextSet_76 ?_
    refine wp_iload_n X dX11_nextSet_79 3 rfl ?_
    refine cv_Model_leadsOf X dX11_nextSet_80 ml_X11_273  h (Nat.le_of_ble_eq_true rfl) (by decide) (fun r80 I80 J80 h => ?_)
    refine pf_X11_291 X sh_177 dX11_nextSet_83 (fun I83 eI83 => ?_)
    have h := h I83 eI83
    refine wp_goto (tgt := 224) X dX11_nextSet_86 (by decide) ?_
    exact wp_vret X Y dX11_nextSet_224 ⟨rfl, h⟩
  have h := ite_f h hs0
  by_cases hs1 : x1 = 1
  · have h := ite_t h hs1
    refine wp_tab (tgt := 56) (y := 1) X dX11_nextSet_21 hs1 (by decide) (by decide) rfl (by decide) ?_
    refine wp_aload_n X dX11_nextSet_56 0 rfl ?_
    refine wp_aload_n X dX11_nextSet_57 0 rfl ?_
    refine wp_bipush X dX11_nextSet_58 bi_18 ?_
    refine wp_aload_n X dX11_nextSet_60 0 rfl ?_
    refine gf_X11_288 X sh_177 dX11_nextSet_61 ?_
    refine wp_iload_n X dX11_nextSet_64 3 rfl ?_
    refine cv_Model_leadsOf X dX11_nextSet_65 ml_X11_273  h (Nat.le_of_ble_eq_true rfl) (by decide) (fun r65 I65 J65 h => ?_)
    refine pf_X11_288 X sh_177 dX11_nextSet_68 (fun I68 eI68 => ?_)
    have h := h I68 eI68
    refine wp_aload_n X dX11_nextSet_71 0 rfl ?_
    refine wp_aload_n X dX11_nextSet_72 0 rfl ?_
    refine wp_bipush X dX11_nextSet_73 bi_19 ?_
    refine wp_aload_n X dX11_nextSet_75 0 rfl ?_
    refine gf_X11_291 X sh_177 dX11_nextSet_76 ?_
    refine wp_iload_n X dX11_nextSet_79 3 rfl ?_
    refine cv_Model_leadsOf X dX11_nextSet_80 ml_X11_273  h (Nat.le_of_ble_eq_true rfl) (by decide) (fun r80 I80 J80 h => ?_)
    refine pf_X11_291 X sh_177 dX11_nextSet_83 (fun I83 eI83 => ?_)
    have h := h I83 eI83
    refine wp_goto (tgt := 224) X dX11_nextSet_86 (by decide) ?_
    exact wp_vret X Y dX11_nextSet_224 ⟨rfl, h⟩
  have h := ite_f h hs1
  by_cases hs2 : x1 = 2
  · have h := ite_t h hs2
    refine wp_tab (tgt := 89) (y := 2) X dX11_nextSet_21 hs2 (by decide) (by decide) rfl (by decide) ?_
    refine wp_aload_n X dX11_nextSet_89 0 rfl ?_
    refine wp_aload_n X dX11_nextSet_90 0 rfl ?_
    refine wp_bipush X dX11_nextSet_91 bi_18 ?_
    refine wp_aload_n X dX11_nextSet_93 0 rfl ?_
    refine gf_X11_288 X sh_177 dX11_nextSet_94 ?_
    refine wp_iload_n X dX11_nextSet_97 3 rfl ?_
    refine cv_Model_leadsOf X dX11_nextSet_98 ml_X11_273  h (Nat.le_of_ble_eq_true rfl) (by decide) (fun r98 I98 J98 h => ?_)
    refine pf_X11_288 X sh_177 dX11_nextSet_101 (fun I101 eI101 => ?_)
    have h := h I101 eI101
    refine wp_goto (tgt := 224) X dX11_nextSet_104 (by decide) ?_
    exact wp_vret X Y dX11_nextSet_224 ⟨rfl, h⟩
  have h := ite_f h hs2
  by_cases hs3 : x1 = 3
  · have h := ite_t h hs3
    refine wp_tab (tgt := 107) (y := 3) X dX11_nextSet_21 hs3 (by decide) (by decide) rfl (by decide) ?_
    refine wp_aload_n X dX11_nextSet_107 0 rfl ?_
    refine wp_aload_n X dX11_nextSet_108 0 rfl ?_
    refine wp_bipush X dX11_nextSet_109 bi_18 ?_
    refine wp_aload_n X dX11_nextSet_111 0 rfl ?_
    refine gf_X11_288 X sh_177 dX11_nextSet_112 ?_
    refine wp_iload_n X dX11_nextSet_115 3 rfl ?_
    refine cv_Model_leadsOf X dX11_nextSet_116 ml_X11_273  h (Nat.le_of_ble_eq_true rfl) (by decide) (fun r116 I116 J116 h => ?_)
    refine pf_X11_288 X sh_177 dX11_nextSet_119 (fun I119 eI119 => ?_)
    have h := h I119 eI119
    refine wp_aload_n X dX11_nextSet_122 0 rfl ?_
    refine wp_aload_n X dX11_nextSet_123 0 rfl ?_
    refine wp_bipush X dX11_nextSet_124 bi_19 ?_
    refine wp_aload_n X dX11_nextSet_126 0 rfl ?_
    refine gf_X11_291 X sh_177 dX11_nextSet_127 ?_
    refine wp_iload_n X dX11_nextSet_130 3 rfl ?_
    refine cv_Model_ledTo X dX11_nextSet_131 ml_X11_294  h (Nat.le_of_ble_eq_true rfl) (by decide) (fun r131 I131 J131 h => ?_)
    refine wp_aload_n X dX11_nextSet_134 0 rfl ?_
    refine wp_bipush X dX11_nextSet_135 bi_18 ?_
    refine wp_aload_n X dX11_nextSet_137 0 rfl ?_
    refine gf_X11_288 X sh_177 dX11_nextSet_138 ?_
    refine cv_Model_isYesBy X dX11_nextSet_141 ml_X11_285  h (Nat.le_of_ble_eq_true rfl) (by decide) (fun r141 I141 J141 h => ?_)
    refine wp_if_eq (tgt := 151) X dX11_nextSet_144 (by decide) (fun hc => ?_) (fun hc => ?_)
    · have h := ite_t h hc
      refine wp_iconst X dX11_nextSet_151 ic_0 ?_
      refine wp_sub X [] rfl ?_
      exact w_Model_nextSet_b152 X Y  h
    · have h := ite_f h hc
      refine wp_iconst X dX11_nextSet_147 ic_1 ?_
      refine wp_goto (tgt := 152) X dX11_nextSet_148 (by decide) ?_
      refine wp_sub X [] rfl ?_
      exact w_Model_nextSet_b152 X Y  h
  have h := ite_f h hs3
  by_cases hs4 : x1 = 4
  · have h := ite_t h hs4
    refine wp_tab (tgt := 159) (y := 4) X dX11_nextSet_21 hs4 (by decide) (by decide) rfl (by decide) ?_
    refine wp_aload_n X dX11_nextSet_159 0 rfl ?_
    refine wp_aload_n X dX11_nextSet_160 0 rfl ?_
    refine wp_bipush X dX11_nextSet_161 bi_18 ?_
    refine wp_aload_n X dX11_nextSet_163 0 rfl ?_
    refine gf_X11_291 X sh_177 dX11_nextSet_164 ?_
    refine wp_iload_n X dX11_nextSet_167 3 rfl ?_
    refine cv_Model_ledFrom X dX11_nextSet_168 ml_X11_297  h (Nat.le_of_ble_eq_true rfl) (by decide) (fun r168 I168 J168 h => ?_)
    refine pf_X11_291 X sh_177 dX11_nextSet_171 (fun I171 eI171 => ?_)
    have h := h I171 eI171
    refine wp_goto (tgt := 224) X dX11_nextSet_174 (by decide) ?_
    exact wp_vret X Y dX11_nextSet_224 ⟨rfl, h⟩
  have h := ite_f h hs4
  have nt0 := lv_neT hs0 (a := 0) (by decide)
  have nt1 := lv_neT hs1 (a := 1) (by decide)
  have nt2 := lv_neT hs2 (a := 2) (by decide)
  have nt3 := lv_neT hs3 (a := 3) (by decide)
  have nt4 := lv_neT hs4 (a := 4) (by decide)
  refine wp_tableOut (tgt := 177) X dX11_nextSet_21 (by omega) (by decide) ?_
  refine wp_aload_n X dX11_nextSet_177 0 rfl ?_
  refine wp_iconst X dX11_nextSet_178 ic_0 ?_
  refine pf_X11_288 X sh_177 dX11_nextSet_179 (fun I179 eI179 => ?_)
  have h := h I179 eI179
  refine wp_aload_n X dX11_nextSet_182 0 rfl ?_
  refine wp_aload_n X dX11_nextSet_183 0 rfl ?_
  refine wp_bipush X dX11_nextSet_184 bi_18 ?_
  refine wp_aload_n X dX11_nextSet_186 0 rfl ?_
  refine gf_X11_291 X sh_177 dX11_nextSet_187 ?_
  refine wp_iload_n X dX11_nextSet_190 3 rfl ?_
  refine cv_Model_ledTo X dX11_nextSet_191 ml_X11_294  h (Nat.le_of_ble_eq_true rfl) (by decide) (fun r191 I191 J191 h => ?_)
  refine pf_X11_291 X sh_177 dX11_nextSet_194 (fun I194 eI194 => ?_)
  have h := h I194 eI194
  refine wp_aload_n X dX11_nextSet_197 0 rfl ?_
  refine wp_dup X dX11_nextSet_198 rfl ?_
  refine gf_X11_291 X sh_177 dX11_nextSet_199 ?_
  refine wp_aload_n X dX11_nextSet_202 0 rfl ?_
  refine wp_bipush X dX11_nextSet_203 bi_18 ?_
  refine wp_aload_n X dX11_nextSet_205 0 rfl ?_
  refine gf_X11_291 X sh_177 dX11_nextSet_206 ?_
  refine cv_Model_anyYes X dX11_nextSet_209 ml_X11_300  h (Nat.le_of_ble_eq_true rfl) (by decide) (fun r209 I209 J209 h => ?_)
  refine wp_if_eq (tgt := 219) X dX11_nextSet_212 (by decide) (fun hc => ?_) (fun hc => ?_)
  · have h := ite_t h hc
    refine wp_iconst X dX11_nextSet_219 ic_0 ?_
    refine wp_sub X [] rfl ?_
    exact w_Model_nextSet_b220 X Y  h
  · have h := ite_f h hc
    refine wp_iconst X dX11_nextSet_215 ic_1 ?_
    refine wp_goto (tgt := 220) X dX11_nextSet_216 (by decide) ?_
    refine wp_sub X [] rfl ?_
    exact w_Model_nextSet_b220 X Y  h

theorem c_Model_nextSet {l : Launch} {g : GE} (hg : Inj g) {I : MI} {J : MJ} {Q : MI → MJ → Prop} {x1 : Int32} {x2 : Int32} {x3 : Int32}  (h : f_Model_nextSet x1 x2 x3 I J Q) : Cm l g yX11_nextSet cX11_nextSet 4 (Option.none : Option Jvm.ClassFile.FieldType) 3 [.ref (g.1 177), .int x1, .int x2, .int x3] I J (Pv Q) := by
  refine Cm.of (As := fun ad => [.ref (ad 177), .int x1, .int x2, .int x3]) hg pn_X11 (Nat.le_of_ble_eq_true rfl) ?_
  exact (fun Γ _ _ X Y => w_Model_nextSet_b0 X Y  h)
theorem cv_Model_nextSet {Γ : Ctx} {cc : ByteArray} {nL d pc index : Nat} {own : String} {L : List (Nat × Value)} {rest : List Value} {I : MI} {J : MJ} {Q : MI → MJ → Prop} {x1 : Int32} {x2 : Int32} {x3 : Int32} (X : Cx Γ cc nL own d) (hd : decode cc pc = .ok (.invokevirtual index, 3)) (hlink : Cond.methodLink own index yX11_nextSet ∈ TT)  (h : f_Model_nextSet x1 x2 x3 I J Q) (hrest : (rest.map fun v => v.category).sum ≤ 8) (hdd : 3 + 1 ≤ d) (kk : ∀ (I' : MI) (J' : MJ), Q I' J' → Wp Γ nL (pc + 3) L rest I' J') : Wp Γ nL pc L (.int x3 :: .int x2 :: .int x1 :: .ref (ad Γ 177) :: rest) I J :=
  wp_callV (As := [.int x1, .int x2, .int x3]) (rest := rest) (T := TX11) (N := 62) X hd hlink mv_X11_nextSet sh_177 (by decide) rfl (c_Model_nextSet X.inj  h) rfl rfl hrest hdd (fun v I' J' hv => by obtain ⟨rfl, hq⟩ := hv; exact kk I' J' hq)
