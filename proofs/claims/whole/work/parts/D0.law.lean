/-! the law: class and reference side by side -/
def Rl (I : MI) (J : MJ) (σ : SG) : Prop := AbsS I J σ ∧ AbsM I J σ
theorem vq1 {i L : Nat} (hi : i + 6 ≤ L) (hL : L ≤ 3072) : vp_in (nI i + 1) L := by
  rw [l1, nI_add]
  exact (vpN (by omega)).mpr (by omega)
theorem vq2 {i L : Nat} (hi : i + 6 ≤ L) (hL : L ≤ 3072) : vp_in (nI i + 2) L := by
  rw [l2, nI_add]
  exact (vpN (by omega)).mpr (by omega)
theorem vq3 {i L : Nat} (hi : i + 6 ≤ L) (hL : L ≤ 3072) : vp_in (nI i + 3) L := by
  rw [l3, nI_add]
  exact (vpN (by omega)).mpr (by omega)
theorem vq4 {i L : Nat} (hi : i + 6 ≤ L) (hL : L ≤ 3072) : vp_in (nI i + 4) L := by
  rw [l4, nI_add]
  exact (vpN (by omega)).mpr (by omega)
theorem vq5 {i L : Nat} (hi : i + 6 ≤ L) (hL : L ≤ 3072) : vp_in (nI i + 5) L := by
  rw [l5, nI_add]
  exact (vpN (by omega)).mpr (by omega)
theorem lb_1763 {L : Nat} {xs : Nat → Int32} {i : Nat} {kh : Int32 → MI → MJ → Prop} {σ : SG} {I : MI} {J : MJ} (nx : ∀ σ' I' J', Rl I' J' σ' → kh (nI (i + 6)) I' J') (h : Rl I J σ) : f_law_b1763 L xs (nI i) kh I J := by
  unfold f_law_b1763
  intro t et
  rw [et, l6, nI_add]
  exact nx σ I J h
theorem lb_1750 {L : Nat} {xs : Nat → Int32} {i : Nat} {kh : Int32 → MI → MJ → Prop} {σ : SG} {I : MI} {J : MJ} (hi : i + 6 ≤ L) (hL : L ≤ 3072) (nx : ∀ σ' I' J', Rl I' J' σ' → kh (nI (i + 6)) I' J') (h : Rl I J σ) : f_law_b1750 L xs (nI i) kh I J := by
  unfold f_law_b1750
  refine S_status h.1 ?_
  have a1 := h.1
  have h1 := h.2
  refine M_status h1 ?_
  rw [if_pos rfl]
  exact lb_1763 nx ⟨a1, h1⟩
theorem lb_1727 {L : Nat} {xs : Nat → Int32} {i : Nat} {kh : Int32 → MI → MJ → Prop} {σ : SG} {I : MI} {J : MJ} (hi : i + 6 ≤ L) (hL : L ≤ 3072) (nx : ∀ σ' I' J', Rl I' J' σ' → kh (nI (i + 6)) I' J') (h : Rl I J σ) : f_law_b1727 L xs (nI i) kh I J := by
  unfold f_law_b1727
  refine ⟨vq1 hi hL, S_raise h.1 ?_⟩
  intro I1 J1 f1 a1
  have h1 : AbsM I1 J1 σ := h.2.kp f1.1 f1.2
  refine ⟨vq1 hi hL, M_raise h1 ?_⟩
  intro I2 J2 f2 a2
  rw [if_pos rfl]
  exact lb_1763 nx ⟨a1.kp f2.1 f2.2, a2⟩
theorem lb_1694 {L : Nat} {xs : Nat → Int32} {i : Nat} {kh : Int32 → MI → MJ → Prop} {σ : SG} {I : MI} {J : MJ} (hi : i + 6 ≤ L) (hL : L ≤ 3072) (nx : ∀ σ' I' J', Rl I' J' σ' → kh (nI (i + 6)) I' J') (h : Rl I J σ) : f_law_b1694 L xs (nI i) kh I J := by
  unfold f_law_b1694
  refine ⟨vq1 hi hL, vq2 hi hL, S_blame h.1 ?_⟩
  intro I1 J1 f1 a1
  have h1 : AbsM I1 J1 σ := h.2.kp f1.1 f1.2
  refine ⟨vq1 hi hL, vq2 hi hL, M_blame h1 ?_⟩
  intro I2 J2 f2 a2
  rw [if_pos rfl]
  exact lb_1763 nx ⟨a1.kp f2.1 f2.2, a2⟩
theorem lb_1671 {L : Nat} {xs : Nat → Int32} {i : Nat} {kh : Int32 → MI → MJ → Prop} {σ : SG} {I : MI} {J : MJ} (hi : i + 6 ≤ L) (hL : L ≤ 3072) (nx : ∀ σ' I' J', Rl I' J' σ' → kh (nI (i + 6)) I' J') (h : Rl I J σ) : f_law_b1671 L xs (nI i) kh I J := by
  unfold f_law_b1671
  refine ⟨vq1 hi hL, S_fits h.1 ?_⟩
  have a1 := h.1
  have h1 := h.2
  refine ⟨vq1 hi hL, M_fits h1 ?_⟩
  intro I2 s2
  rw [if_pos rfl]
  exact lb_1763 nx ⟨a1.kp (fun i hi => s2.1 i (by omega)) (fun _ _ => rfl), h1.sc s2⟩
theorem lb_1648 {L : Nat} {xs : Nat → Int32} {i : Nat} {kh : Int32 → MI → MJ → Prop} {σ : SG} {I : MI} {J : MJ} (hi : i + 6 ≤ L) (hL : L ≤ 3072) (nx : ∀ σ' I' J', Rl I' J' σ' → kh (nI (i + 6)) I' J') (h : Rl I J σ) : f_law_b1648 L xs (nI i) kh I J := by
  unfold f_law_b1648
  refine ⟨vq1 hi hL, S_fewest h.1 ?_⟩
  intro I1 J1 f1 a1
  have h1 : AbsM I1 J1 σ := h.2.kp f1.1 f1.2
  refine ⟨vq1 hi hL, M_fewest h1 ?_⟩
  intro I2 J2 f2 a2
  rw [if_pos rfl]
  exact lb_1763 nx ⟨a1.kp f2.1 f2.2, a2⟩
theorem lb_1635 {L : Nat} {xs : Nat → Int32} {i : Nat} {kh : Int32 → MI → MJ → Prop} {σ : SG} {I : MI} {J : MJ} (hi : i + 6 ≤ L) (hL : L ≤ 3072) (nx : ∀ σ' I' J', Rl I' J' σ' → kh (nI (i + 6)) I' J') (h : Rl I J σ) : f_law_b1635 L xs (nI i) kh I J := by
  unfold f_law_b1635
  refine S_unknow h.1 ?_
  intro I1 J1 f1 a1
  have h1 : AbsM I1 J1 σ := h.2.kp f1.1 f1.2
  refine M_unknow h1 ?_
  intro I2 J2 f2 a2
  rw [if_pos rfl]
  exact lb_1763 nx ⟨a1.kp f2.1 f2.2, a2⟩
theorem lb_1572 {L : Nat} {xs : Nat → Int32} {i : Nat} {kh : Int32 → MI → MJ → Prop} {σ : SG} {I : MI} {J : MJ} (hi : i + 6 ≤ L) (hL : L ≤ 3072) (nx : ∀ σ' I' J', Rl I' J' σ' → kh (nI (i + 6)) I' J') (h : Rl I J σ) : f_law_b1572 L xs (nI i) kh I J := by
  unfold f_law_b1572
  refine ⟨vq1 hi hL, vq2 hi hL, vq3 hi hL, S_know h.1 ?_⟩
  intro I1 J1 f1 a1
  have h1 : AbsM I1 J1 σ := h.2.kp f1.1 f1.2
  refine ⟨vq1 hi hL, vq2 hi hL, vq3 hi hL, M_know h1 ?_⟩
  intro I2 J2 f2 a2
  rw [if_pos rfl]
  exact lb_1763 nx ⟨a1.kp f2.1 f2.2, a2⟩
theorem lb_1559 {L : Nat} {xs : Nat → Int32} {i : Nat} {kh : Int32 → MI → MJ → Prop} {σ : SG} {I : MI} {J : MJ} (hi : i + 6 ≤ L) (hL : L ≤ 3072) (nx : ∀ σ' I' J', Rl I' J' σ' → kh (nI (i + 6)) I' J') (h : Rl I J σ) : f_law_b1559 L xs (nI i) kh I J := by
  unfold f_law_b1559
  refine S_guesses h.1 ?_
  have a1 := h.1
  have h1 := h.2
  refine M_guesses h1 ?_
  rw [if_pos rfl]
  exact lb_1763 nx ⟨a1, h1⟩
theorem lb_1545 {L : Nat} {xs : Nat → Int32} {i : Nat} {kh : Int32 → MI → MJ → Prop} {σ : SG} {I : MI} {J : MJ} (hi : i + 6 ≤ L) (hL : L ≤ 3072) (nx : ∀ σ' I' J', Rl I' J' σ' → kh (nI (i + 6)) I' J') (h : Rl I J σ) : f_law_b1545 L xs (nI i) kh I J := by
  unfold f_law_b1545
  refine S_told h.1 ?_
  have a1 := h.1
  have h1 := h.2
  refine M_told h1 ?_
  rw [if_pos rfl]
  exact lb_1763 nx ⟨a1, h1⟩
theorem lb_1502 {L : Nat} {xs : Nat → Int32} {i : Nat} {kh : Int32 → MI → MJ → Prop} {σ : SG} {I : MI} {J : MJ} (hi : i + 6 ≤ L) (hL : L ≤ 3072) (nx : ∀ σ' I' J', Rl I' J' σ' → kh (nI (i + 6)) I' J') (h : Rl I J σ) : f_law_b1502 L xs (nI i) kh I J := by
  unfold f_law_b1502
  refine ⟨vq1 hi hL, vq2 hi hL, vq3 hi hL, S_cell h.1 ?_⟩
  have a1 := h.1
  have h1 := h.2
  refine ⟨vq1 hi hL, vq2 hi hL, vq3 hi hL, M_cell h1 ?_⟩
  intro I2 s2
  rw [if_pos rfl]
  exact lb_1763 nx ⟨a1.kp (fun i hi => s2.1 i (by omega)) (fun _ _ => rfl), h1.sc s2⟩
theorem lb_1478 {L : Nat} {xs : Nat → Int32} {i : Nat} {kh : Int32 → MI → MJ → Prop} {σ : SG} {I : MI} {J : MJ} (hi : i + 6 ≤ L) (hL : L ≤ 3072) (nx : ∀ σ' I' J', Rl I' J' σ' → kh (nI (i + 6)) I' J') (h : Rl I J σ) : f_law_b1478 L xs (nI i) kh I J := by
  unfold f_law_b1478
  refine ⟨vq1 hi hL, S_behind h.1 ?_⟩
  have a1 := h.1
  have h1 := h.2
  refine ⟨vq1 hi hL, M_behind h1 ?_⟩
  rw [if_pos rfl]
  exact lb_1763 nx ⟨a1, h1⟩
theorem lb_1454 {L : Nat} {xs : Nat → Int32} {i : Nat} {kh : Int32 → MI → MJ → Prop} {σ : SG} {I : MI} {J : MJ} (hi : i + 6 ≤ L) (hL : L ≤ 3072) (nx : ∀ σ' I' J', Rl I' J' σ' → kh (nI (i + 6)) I' J') (h : Rl I J σ) : f_law_b1454 L xs (nI i) kh I J := by
  unfold f_law_b1454
  refine ⟨vq1 hi hL, S_ahead h.1 ?_⟩
  have a1 := h.1
  have h1 := h.2
  refine ⟨vq1 hi hL, M_ahead h1 ?_⟩
  rw [if_pos rfl]
  exact lb_1763 nx ⟨a1, h1⟩
theorem lb_1431 {L : Nat} {xs : Nat → Int32} {i : Nat} {kh : Int32 → MI → MJ → Prop} {σ : SG} {I : MI} {J : MJ} (hi : i + 6 ≤ L) (hL : L ≤ 3072) (nx : ∀ σ' I' J', Rl I' J' σ' → kh (nI (i + 6)) I' J') (h : Rl I J σ) : f_law_b1431 L xs (nI i) kh I J := by
  unfold f_law_b1431
  refine ⟨vq1 hi hL, S_guess h.1 ?_⟩
  intro I1 J1 f1 a1
  have h1 : AbsM I1 J1 σ := h.2.kp f1.1 f1.2
  refine ⟨vq1 hi hL, M_guess h1 ?_⟩
  intro I2 J2 f2 a2
  rw [if_pos rfl]
  exact lb_1763 nx ⟨a1.kp f2.1 f2.2, a2⟩
theorem lb_1378 {L : Nat} {xs : Nat → Int32} {i : Nat} {kh : Int32 → MI → MJ → Prop} {σ : SG} {I : MI} {J : MJ} (hi : i + 6 ≤ L) (hL : L ≤ 3072) (nx : ∀ σ' I' J', Rl I' J' σ' → kh (nI (i + 6)) I' J') (h : Rl I J σ) : f_law_b1378 L xs (nI i) kh I J := by
  unfold f_law_b1378
  refine ⟨vq1 hi hL, vq2 hi hL, S_tell h.1 ?_⟩
  intro I1 J1 f1 a1
  have h1 : AbsM I1 J1 σ := h.2.kp f1.1 f1.2
  refine ⟨vq1 hi hL, vq2 hi hL, M_tell h1 ?_⟩
  intro I2 J2 f2 a2
  rw [if_pos rfl]
  exact lb_1763 nx ⟨a1.kp f2.1 f2.2, a2⟩
theorem lb_1365 {L : Nat} {xs : Nat → Int32} {i : Nat} {kh : Int32 → MI → MJ → Prop} {σ : SG} {I : MI} {J : MJ} (hi : i + 6 ≤ L) (hL : L ≤ 3072) (nx : ∀ σ' I' J', Rl I' J' σ' → kh (nI (i + 6)) I' J') (h : Rl I J σ) : f_law_b1365 L xs (nI i) kh I J := by
  unfold f_law_b1365
  refine S_exam h.1 ?_
  intro I1 J1 f1 a1
  have h1 : AbsM I1 J1 σ := h.2.kp f1.1 f1.2
  refine M_exam h1 ?_
  intro I2 J2 f2 a2
  rw [if_pos rfl]
  exact lb_1763 nx ⟨a1.kp f2.1 f2.2, a2⟩
theorem lb_1342 {L : Nat} {xs : Nat → Int32} {i : Nat} {kh : Int32 → MI → MJ → Prop} {σ : SG} {I : MI} {J : MJ} (hi : i + 6 ≤ L) (hL : L ≤ 3072) (nx : ∀ σ' I' J', Rl I' J' σ' → kh (nI (i + 6)) I' J') (h : Rl I J σ) : f_law_b1342 L xs (nI i) kh I J := by
  unfold f_law_b1342
  refine ⟨vq1 hi hL, S_learn h.1 ?_⟩
  intro I1 J1 f1 a1
  have h1 : AbsM I1 J1 σ := h.2.kp f1.1 f1.2
  refine ⟨vq1 hi hL, M_learn h1 ?_⟩
  intro I2 J2 f2 a2
  rw [if_pos rfl]
  exact lb_1763 nx ⟨a1.kp f2.1 f2.2, a2⟩
theorem lb_1279 {L : Nat} {xs : Nat → Int32} {i : Nat} {kh : Int32 → MI → MJ → Prop} {σ : SG} {I : MI} {J : MJ} (hi : i + 6 ≤ L) (hL : L ≤ 3072) (nx : ∀ σ' I' J', Rl I' J' σ' → kh (nI (i + 6)) I' J') (h : Rl I J σ) : f_law_b1279 L xs (nI i) kh I J := by
  unfold f_law_b1279
  refine ⟨vq1 hi hL, vq2 hi hL, vq3 hi hL, S_forget h.1 ?_⟩
  intro I1 J1 f1 a1
  have h1 : AbsM I1 J1 σ := h.2.kp f1.1 f1.2
  refine ⟨vq1 hi hL, vq2 hi hL, vq3 hi hL, M_forget h1 ?_⟩
  intro I2 J2 f2 a2
  rw [if_pos rfl]
  exact lb_1763 nx ⟨a1.kp f2.1 f2.2, a2⟩
theorem lb_1226 {L : Nat} {xs : Nat → Int32} {i : Nat} {kh : Int32 → MI → MJ → Prop} {σ : SG} {I : MI} {J : MJ} (hi : i + 6 ≤ L) (hL : L ≤ 3072) (nx : ∀ σ' I' J', Rl I' J' σ' → kh (nI (i + 6)) I' J') (h : Rl I J σ) : f_law_b1226 L xs (nI i) kh I J := by
  unfold f_law_b1226
  refine ⟨vq1 hi hL, vq2 hi hL, vq3 hi hL, vq4 hi hL, S_teacher h.1 ?_⟩
  intro I1 J1 f1 a1
  have h1 : AbsM I1 J1 σ := h.2.kp f1.1 f1.2
  refine ⟨vq1 hi hL, vq2 hi hL, vq3 hi hL, vq4 hi hL, M_teacher h1 ?_⟩
  intro I2 J2 f2 a2
  rw [if_pos rfl]
  exact lb_1763 nx ⟨a1.kp f2.1 f2.2, a2⟩
theorem lb_1182 {L : Nat} {xs : Nat → Int32} {i : Nat} {kh : Int32 → MI → MJ → Prop} {σ : SG} {I : MI} {J : MJ} (hi : i + 6 ≤ L) (hL : L ≤ 3072) (nx : ∀ σ' I' J', Rl I' J' σ' → kh (nI (i + 6)) I' J') (h : Rl I J σ) : f_law_b1182 L xs (nI i) kh I J := by
  unfold f_law_b1182
  refine ⟨vq1 hi hL, vq2 hi hL, vq3 hi hL, S_passes h.1 ?_⟩
  intro I1 J1 f1 a1
  have h1 : AbsM I1 J1 σ := h.2.kp f1.1 f1.2
  refine ⟨vq1 hi hL, vq2 hi hL, vq3 hi hL, M_passes h1 ?_⟩
  intro I2 J2 f2 a2
  rw [if_pos rfl]
  exact lb_1763 nx ⟨a1.kp f2.1 f2.2, a2⟩
theorem lb_1149 {L : Nat} {xs : Nat → Int32} {i : Nat} {kh : Int32 → MI → MJ → Prop} {σ : SG} {I : MI} {J : MJ} (hi : i + 6 ≤ L) (hL : L ≤ 3072) (nx : ∀ σ' I' J', Rl I' J' σ' → kh (nI (i + 6)) I' J') (h : Rl I J σ) : f_law_b1149 L xs (nI i) kh I J := by
  unfold f_law_b1149
  refine ⟨vq1 hi hL, vq2 hi hL, S_suite h.1 ?_⟩
  intro I1 J1 f1 a1
  have h1 : AbsM I1 J1 σ := h.2.kp f1.1 f1.2
  refine ⟨vq1 hi hL, vq2 hi hL, M_suite h1 ?_⟩
  intro I2 J2 f2 a2
  rw [if_pos rfl]
  exact lb_1763 nx ⟨a1.kp f2.1 f2.2, a2⟩
theorem lb_1096 {L : Nat} {xs : Nat → Int32} {i : Nat} {kh : Int32 → MI → MJ → Prop} {σ : SG} {I : MI} {J : MJ} (hi : i + 6 ≤ L) (hL : L ≤ 3072) (nx : ∀ σ' I' J', Rl I' J' σ' → kh (nI (i + 6)) I' J') (h : Rl I J σ) : f_law_b1096 L xs (nI i) kh I J := by
  unfold f_law_b1096
  refine ⟨vq1 hi hL, vq2 hi hL, vq3 hi hL, vq4 hi hL, S_join h.1 ?_⟩
  intro I1 J1 f1 a1
  have h1 : AbsM I1 J1 σ := h.2.kp f1.1 f1.2
  refine ⟨vq1 hi hL, vq2 hi hL, vq3 hi hL, vq4 hi hL, M_join h1 ?_⟩
  intro I2 J2 f2 a2
  rw [if_pos rfl]
  exact lb_1763 nx ⟨a1.kp f2.1 f2.2, a2⟩
theorem lb_1063 {L : Nat} {xs : Nat → Int32} {i : Nat} {kh : Int32 → MI → MJ → Prop} {σ : SG} {I : MI} {J : MJ} (hi : i + 6 ≤ L) (hL : L ≤ 3072) (nx : ∀ σ' I' J', Rl I' J' σ' → kh (nI (i + 6)) I' J') (h : Rl I J σ) : f_law_b1063 L xs (nI i) kh I J := by
  unfold f_law_b1063
  refine ⟨vq1 hi hL, vq2 hi hL, S_least h.1 ?_⟩
  intro I1 J1 f1 a1
  have h1 : AbsM I1 J1 σ := h.2.kp f1.1 f1.2
  refine ⟨vq1 hi hL, vq2 hi hL, M_least h1 ?_⟩
  intro I2 J2 f2 a2
  rw [if_pos rfl]
  exact lb_1763 nx ⟨a1.kp f2.1 f2.2, a2⟩
theorem lb_1029 {L : Nat} {xs : Nat → Int32} {i : Nat} {kh : Int32 → MI → MJ → Prop} {σ : SG} {I : MI} {J : MJ} (hi : i + 6 ≤ L) (hL : L ≤ 3072) (nx : ∀ σ' I' J', Rl I' J' σ' → kh (nI (i + 6)) I' J') (h : Rl I J σ) : f_law_b1029 L xs (nI i) kh I J := by
  unfold f_law_b1029
  refine ⟨vq1 hi hL, vq2 hi hL, S_differ h.1 ?_⟩
  intro I1 J1 f1 a1
  have h1 : AbsM I1 J1 σ := h.2.kp f1.1 f1.2
  refine ⟨vq1 hi hL, vq2 hi hL, M_differ h1 ?_⟩
  intro I2 J2 f2 a2
  rw [if_pos rfl]
  exact lb_1763 nx ⟨a1.kp f2.1 f2.2, a2⟩
theorem lb_965 {L : Nat} {xs : Nat → Int32} {i : Nat} {kh : Int32 → MI → MJ → Prop} {σ : SG} {I : MI} {J : MJ} (hi : i + 6 ≤ L) (hL : L ≤ 3072) (nx : ∀ σ' I' J', Rl I' J' σ' → kh (nI (i + 6)) I' J') (h : Rl I J σ) : f_law_b965 L xs (nI i) kh I J := by
  unfold f_law_b965
  refine ⟨vq1 hi hL, vq2 hi hL, vq3 hi hL, S_place h.1 ?_⟩
  intro I1 J1 f1 a1
  have h1 : AbsM I1 J1 σ := h.2.kp f1.1 f1.2
  refine ⟨vq1 hi hL, vq2 hi hL, vq3 hi hL, M_place h1 ?_⟩
  intro I2 J2 f2 a2
  rw [if_pos rfl]
  exact lb_1763 nx ⟨a1.kp f2.1 f2.2, a2⟩
theorem lb_891 {L : Nat} {xs : Nat → Int32} {i : Nat} {kh : Int32 → MI → MJ → Prop} {σ : SG} {I : MI} {J : MJ} (hi : i + 6 ≤ L) (hL : L ≤ 3072) (nx : ∀ σ' I' J', Rl I' J' σ' → kh (nI (i + 6)) I' J') (h : Rl I J σ) : f_law_b891 L xs (nI i) kh I J := by
  unfold f_law_b891
  refine ⟨vq1 hi hL, vq2 hi hL, vq3 hi hL, vq4 hi hL, S_word h.1 ?_⟩
  intro I1 J1 f1 a1
  have h1 : AbsM I1 J1 σ := h.2.kp f1.1 f1.2
  refine ⟨vq1 hi hL, vq2 hi hL, vq3 hi hL, vq4 hi hL, M_word h1 ?_⟩
  intro I2 J2 f2 a2
  rw [if_pos rfl]
  exact lb_1763 nx ⟨a1.kp f2.1 f2.2, a2⟩
theorem lb_847 {L : Nat} {xs : Nat → Int32} {i : Nat} {kh : Int32 → MI → MJ → Prop} {σ : SG} {I : MI} {J : MJ} (hi : i + 6 ≤ L) (hL : L ≤ 3072) (nx : ∀ σ' I' J', Rl I' J' σ' → kh (nI (i + 6)) I' J') (h : Rl I J σ) : f_law_b847 L xs (nI i) kh I J := by
  unfold f_law_b847
  refine ⟨vq1 hi hL, vq2 hi hL, vq3 hi hL, S_count h.1 ?_⟩
  intro I1 J1 f1 a1
  have h1 : AbsM I1 J1 σ := h.2.kp f1.1 f1.2
  refine ⟨vq1 hi hL, vq2 hi hL, vq3 hi hL, M_count h1 ?_⟩
  intro I2 J2 f2 a2
  rw [if_pos rfl]
  exact lb_1763 nx ⟨a1.kp f2.1 f2.2, a2⟩
theorem lb_784 {L : Nat} {xs : Nat → Int32} {i : Nat} {kh : Int32 → MI → MJ → Prop} {σ : SG} {I : MI} {J : MJ} (hi : i + 6 ≤ L) (hL : L ≤ 3072) (nx : ∀ σ' I' J', Rl I' J' σ' → kh (nI (i + 6)) I' J') (h : Rl I J σ) : f_law_b784 L xs (nI i) kh I J := by
  unfold f_law_b784
  refine ⟨vq1 hi hL, vq2 hi hL, vq3 hi hL, S_answer h.1 ?_⟩
  have a1 := h.1
  have h1 := h.2
  refine ⟨vq1 hi hL, vq2 hi hL, vq3 hi hL, M_answer h1 ?_⟩
  intro I2 s2
  rw [if_pos rfl]
  exact lb_1763 nx ⟨a1.kp (fun i hi => s2.1 i (by omega)) (fun _ _ => rfl), h1.sc s2⟩
theorem lb_751 {L : Nat} {xs : Nat → Int32} {i : Nat} {kh : Int32 → MI → MJ → Prop} {σ : SG} {I : MI} {J : MJ} (hi : i + 6 ≤ L) (hL : L ≤ 3072) (nx : ∀ σ' I' J', Rl I' J' σ' → kh (nI (i + 6)) I' J') (h : Rl I J σ) : f_law_b751 L xs (nI i) kh I J := by
  unfold f_law_b751
  refine ⟨vq1 hi hL, vq2 hi hL, S_says h.1 ?_⟩
  have a1 := h.1
  have h1 := h.2
  refine ⟨vq1 hi hL, vq2 hi hL, M_says h1 ?_⟩
  rw [if_pos rfl]
  exact lb_1763 nx ⟨a1, h1⟩
theorem lb_708 {L : Nat} {xs : Nat → Int32} {i : Nat} {kh : Int32 → MI → MJ → Prop} {σ : SG} {I : MI} {J : MJ} (hi : i + 6 ≤ L) (hL : L ≤ 3072) (nx : ∀ σ' I' J', Rl I' J' σ' → kh (nI (i + 6)) I' J') (h : Rl I J σ) : f_law_b708 L xs (nI i) kh I J := by
  unfold f_law_b708
  refine ⟨vq1 hi hL, vq2 hi hL, vq3 hi hL, S_what h.1 ?_⟩
  have a1 := h.1
  have h1 := h.2
  refine ⟨vq1 hi hL, vq2 hi hL, vq3 hi hL, M_what h1 ?_⟩
  rw [if_pos rfl]
  exact lb_1763 nx ⟨a1, h1⟩
theorem lb_665 {L : Nat} {xs : Nat → Int32} {i : Nat} {kh : Int32 → MI → MJ → Prop} {σ : SG} {I : MI} {J : MJ} (hi : i + 6 ≤ L) (hL : L ≤ 3072) (nx : ∀ σ' I' J', Rl I' J' σ' → kh (nI (i + 6)) I' J') (h : Rl I J σ) : f_law_b665 L xs (nI i) kh I J := by
  unfold f_law_b665
  refine ⟨vq1 hi hL, vq2 hi hL, vq3 hi hL, S_leads h.1 ?_⟩
  have a1 := h.1
  have h1 := h.2
  refine ⟨vq1 hi hL, vq2 hi hL, vq3 hi hL, M_leads h1 ?_⟩
  rw [if_pos rfl]
  exact lb_1763 nx ⟨a1, h1⟩
theorem lb_632 {L : Nat} {xs : Nat → Int32} {i : Nat} {kh : Int32 → MI → MJ → Prop} {σ : SG} {I : MI} {J : MJ} (hi : i + 6 ≤ L) (hL : L ≤ 3072) (nx : ∀ σ' I' J', Rl I' J' σ' → kh (nI (i + 6)) I' J') (h : Rl I J σ) : f_law_b632 L xs (nI i) kh I J := by
  unfold f_law_b632
  refine ⟨vq1 hi hL, vq2 hi hL, S_size h.1 ?_⟩
  have a1 := h.1
  have h1 := h.2
  refine ⟨vq1 hi hL, vq2 hi hL, M_size h1 ?_⟩
  rw [if_pos rfl]
  exact lb_1763 nx ⟨a1, h1⟩
theorem lb_609 {L : Nat} {xs : Nat → Int32} {i : Nat} {kh : Int32 → MI → MJ → Prop} {σ : SG} {I : MI} {J : MJ} (hi : i + 6 ≤ L) (hL : L ≤ 3072) (nx : ∀ σ' I' J', Rl I' J' σ' → kh (nI (i + 6)) I' J') (h : Rl I J σ) : f_law_b609 L xs (nI i) kh I J := by
  unfold f_law_b609
  refine ⟨vq1 hi hL, S_kind h.1 ?_⟩
  have a1 := h.1
  have h1 := h.2
  refine ⟨vq1 hi hL, M_kind h1 ?_⟩
  rw [if_pos rfl]
  exact lb_1763 nx ⟨a1, h1⟩
theorem lb_586 {L : Nat} {xs : Nat → Int32} {i : Nat} {kh : Int32 → MI → MJ → Prop} {σ : SG} {I : MI} {J : MJ} (hi : i + 6 ≤ L) (hL : L ≤ 3072) (nx : ∀ σ' I' J', Rl I' J' σ' → kh (nI (i + 6)) I' J') (h : Rl I J σ) : f_law_b586 L xs (nI i) kh I J := by
  unfold f_law_b586
  refine ⟨vq1 hi hL, S_lift h.1 ?_⟩
  intro I1 J1 f1 a1
  have h1 : AbsM I1 J1 σ := h.2.kp f1.1 f1.2
  refine ⟨vq1 hi hL, M_lift h1 ?_⟩
  intro I2 J2 f2 a2
  rw [if_pos rfl]
  exact lb_1763 nx ⟨a1.kp f2.1 f2.2, a2⟩
theorem lb_553 {L : Nat} {xs : Nat → Int32} {i : Nat} {kh : Int32 → MI → MJ → Prop} {σ : SG} {I : MI} {J : MJ} (hi : i + 6 ≤ L) (hL : L ≤ 3072) (nx : ∀ σ' I' J', Rl I' J' σ' → kh (nI (i + 6)) I' J') (h : Rl I J σ) : f_law_b553 L xs (nI i) kh I J := by
  unfold f_law_b553
  refine ⟨vq1 hi hL, vq2 hi hL, S_draw h.1 ?_⟩
  intro I1 J1 f1 a1
  have h1 : AbsM I1 J1 σ := h.2.kp f1.1 f1.2
  refine ⟨vq1 hi hL, vq2 hi hL, M_draw h1 ?_⟩
  intro I2 J2 f2 a2
  rw [if_pos rfl]
  exact lb_1763 nx ⟨a1.kp f2.1 f2.2, a2⟩
theorem lb_490 {L : Nat} {xs : Nat → Int32} {i : Nat} {kh : Int32 → MI → MJ → Prop} {σ : SG} {I : MI} {J : MJ} (hi : i + 6 ≤ L) (hL : L ≤ 3072) (nx : ∀ σ' I' J', Rl I' J' σ' → kh (nI (i + 6)) I' J') (h : Rl I J σ) : f_law_b490 L xs (nI i) kh I J := by
  unfold f_law_b490
  refine ⟨vq1 hi hL, vq2 hi hL, vq3 hi hL, vq4 hi hL, vq5 hi hL, S_copy h.1 ?_⟩
  intro I1 J1 f1 a1
  have h1 : AbsM I1 J1 σ := h.2.kp f1.1 f1.2
  refine ⟨vq1 hi hL, vq2 hi hL, vq3 hi hL, vq4 hi hL, vq5 hi hL, M_copy h1 ?_⟩
  intro I2 J2 f2 a2
  rw [if_pos rfl]
  exact lb_1763 nx ⟨a1.kp f2.1 f2.2, a2⟩
theorem lb_437 {L : Nat} {xs : Nat → Int32} {i : Nat} {kh : Int32 → MI → MJ → Prop} {σ : SG} {I : MI} {J : MJ} (hi : i + 6 ≤ L) (hL : L ≤ 3072) (nx : ∀ σ' I' J', Rl I' J' σ' → kh (nI (i + 6)) I' J') (h : Rl I J σ) : f_law_b437 L xs (nI i) kh I J := by
  unfold f_law_b437
  refine ⟨vq1 hi hL, vq2 hi hL, vq3 hi hL, vq4 hi hL, S_act h.1 ?_⟩
  intro I1 J1 f1 a1
  have h1 : AbsM I1 J1 σ := h.2.kp f1.1 f1.2
  refine ⟨vq1 hi hL, vq2 hi hL, vq3 hi hL, vq4 hi hL, M_act h1 ?_⟩
  intro I2 J2 f2 a2
  rw [if_pos rfl]
  exact lb_1763 nx ⟨a1.kp f2.1 f2.2, a2⟩
theorem lb_394 {L : Nat} {xs : Nat → Int32} {i : Nat} {kh : Int32 → MI → MJ → Prop} {σ : SG} {I : MI} {J : MJ} (hi : i + 6 ≤ L) (hL : L ≤ 3072) (nx : ∀ σ' I' J', Rl I' J' σ' → kh (nI (i + 6)) I' J') (h : Rl I J σ) : f_law_b394 L xs (nI i) kh I J := by
  unfold f_law_b394
  refine ⟨vq1 hi hL, vq2 hi hL, vq3 hi hL, S_say h.1 ?_⟩
  intro I1 J1 f1 a1
  have h1 : AbsM I1 J1 σ := h.2.kp f1.1 f1.2
  refine ⟨vq1 hi hL, vq2 hi hL, vq3 hi hL, M_say h1 ?_⟩
  intro I2 J2 f2 a2
  rw [if_pos rfl]
  exact lb_1763 nx ⟨a1.kp f2.1 f2.2, a2⟩
theorem lb_341 {L : Nat} {xs : Nat → Int32} {i : Nat} {kh : Int32 → MI → MJ → Prop} {σ : SG} {I : MI} {J : MJ} (hi : i + 6 ≤ L) (hL : L ≤ 3072) (nx : ∀ σ' I' J', Rl I' J' σ' → kh (nI (i + 6)) I' J') (h : Rl I J σ) : f_law_b341 L xs (nI i) kh I J := by
  unfold f_law_b341
  refine ⟨vq1 hi hL, vq2 hi hL, vq3 hi hL, vq4 hi hL, S_take h.1 ?_⟩
  intro I1 J1 f1 a1
  have h1 : AbsM I1 J1 σ := h.2.kp f1.1 f1.2
  refine ⟨vq1 hi hL, vq2 hi hL, vq3 hi hL, vq4 hi hL, M_take h1 ?_⟩
  intro I2 J2 f2 a2
  rw [if_pos rfl]
  exact lb_1763 nx ⟨a1.kp f2.1 f2.2, a2⟩
theorem lb_308 {L : Nat} {xs : Nat → Int32} {i : Nat} {kh : Int32 → MI → MJ → Prop} {σ : SG} {I : MI} {J : MJ} (hi : i + 6 ≤ L) (hL : L ≤ 3072) (nx : ∀ σ' I' J', Rl I' J' σ' → kh (nI (i + 6)) I' J') (h : Rl I J σ) : f_law_b308 L xs (nI i) kh I J := by
  unfold f_law_b308
  refine ⟨vq1 hi hL, vq2 hi hL, S_cut h.1 ?_⟩
  intro I1 J1 f1 a1
  have h1 : AbsM I1 J1 σ := h.2.kp f1.1 f1.2
  refine ⟨vq1 hi hL, vq2 hi hL, M_cut h1 ?_⟩
  intro I2 J2 f2 a2
  rw [if_pos rfl]
  exact lb_1763 nx ⟨a1.kp f2.1 f2.2, a2⟩
theorem lb_265 {L : Nat} {xs : Nat → Int32} {i : Nat} {kh : Int32 → MI → MJ → Prop} {σ : SG} {I : MI} {J : MJ} (hi : i + 6 ≤ L) (hL : L ≤ 3072) (nx : ∀ σ' I' J', Rl I' J' σ' → kh (nI (i + 6)) I' J') (h : Rl I J σ) : f_law_b265 L xs (nI i) kh I J := by
  unfold f_law_b265
  refine ⟨vq1 hi hL, vq2 hi hL, vq3 hi hL, S_row h.1 ?_⟩
  intro I1 J1 f1 a1
  have h1 : AbsM I1 J1 σ := h.2.kp f1.1 f1.2
  refine ⟨vq1 hi hL, vq2 hi hL, vq3 hi hL, M_row h1 ?_⟩
  intro I2 J2 f2 a2
  rw [if_pos rfl]
  exact lb_1763 nx ⟨a1.kp f2.1 f2.2, a2⟩
theorem lb_212 {L : Nat} {xs : Nat → Int32} {i : Nat} {kh : Int32 → MI → MJ → Prop} {σ : SG} {I : MI} {J : MJ} (hi : i + 6 ≤ L) (hL : L ≤ 3072) (nx : ∀ σ' I' J', Rl I' J' σ' → kh (nI (i + 6)) I' J') (h : Rl I J σ) : f_law_b212 L xs (nI i) kh I J := by
  unfold f_law_b212
  refine ⟨vq1 hi hL, vq2 hi hL, vq3 hi hL, vq4 hi hL, S_machine h.1 ?_⟩
  intro I1 J1 f1 a1
  have h1 : AbsM I1 J1 σ := h.2.kp f1.1 f1.2
  refine ⟨vq1 hi hL, vq2 hi hL, vq3 hi hL, vq4 hi hL, M_machine h1 ?_⟩
  intro I2 J2 f2 a2
  rw [if_pos rfl]
  exact lb_1763 nx ⟨a1.kp f2.1 f2.2, a2⟩
theorem law_loop {L : Nat} {xs : Nat → Int32} {σ : SG} {I : MI} {J : MJ} (hL : L ≤ 3072) (h : Rl I J σ) : f_law L xs I J := by
  unfold f_law
  refine lp4 (fun n (i : Nat) (σ1 : SG) (I1 : MI) (J1 : MJ) => f_law_L18 L xs n (nI i) I1 J1) (fun i σ1 I1 J1 => i ≤ L ∧ Rl I1 J1 σ1) (fun i _ _ _ => L - i) ?_ 0 σ I J ⟨Nat.zero_le _, h⟩
  rintro n i σ1 I1 J1 ⟨b1, b2⟩ ih
  unfold f_law_L18
  have eL : Int32.ofNat L - 6 = nI L - nI 6 := rfl
  rw [eL]
  by_cases hl : i + 6 ≤ L
  rotate_left
  · by_cases h6 : L < 6
    · rw [if_pos (Int32.lt_of_lt_of_le (pk_sneg (by decide) h6) (nI0_le (by omega)))]
      trivial
    · rw [pk_sub (by omega), if_pos (by rw [ltNN (by omega) (by omega)]; omega)]
      trivial
  rw [pk_sub (by omega), if_neg (by rw [ltNN (by omega) (by omega)]; omega), vpN (by omega)]
  refine ⟨by omega, ?_⟩
  have nx : ∀ σ' I' J', Rl I' J' σ' → f_law_L18 L xs n (nI (i + 6)) I' J' := fun σ' I' J' h' => ih (i + 6) σ' I' J' ⟨hl, h'⟩ (by omega)
  by_cases c0 : (xs (nI i).toNatClampNeg) &&& 63 = 0
  · rw [if_pos c0]; exact lb_212 hl hL nx b2
  rw [if_neg c0]
  by_cases c1 : (xs (nI i).toNatClampNeg) &&& 63 = 1
  · rw [if_pos c1]; exact lb_265 hl hL nx b2
  rw [if_neg c1]
  by_cases c2 : (xs (nI i).toNatClampNeg) &&& 63 = 2
  · rw [if_pos c2]; exact lb_308 hl hL nx b2
  rw [if_neg c2]
  by_cases c3 : (xs (nI i).toNatClampNeg) &&& 63 = 3
  · rw [if_pos c3]; exact lb_341 hl hL nx b2
  rw [if_neg c3]
  by_cases c4 : (xs (nI i).toNatClampNeg) &&& 63 = 4
  · rw [if_pos c4]; exact lb_394 hl hL nx b2
  rw [if_neg c4]
  by_cases c5 : (xs (nI i).toNatClampNeg) &&& 63 = 5
  · rw [if_pos c5]; exact lb_437 hl hL nx b2
  rw [if_neg c5]
  by_cases c6 : (xs (nI i).toNatClampNeg) &&& 63 = 6
  · rw [if_pos c6]; exact lb_490 hl hL nx b2
  rw [if_neg c6]
  by_cases c7 : (xs (nI i).toNatClampNeg) &&& 63 = 7
  · rw [if_pos c7]; exact lb_553 hl hL nx b2
  rw [if_neg c7]
  by_cases c8 : (xs (nI i).toNatClampNeg) &&& 63 = 8
  · rw [if_pos c8]; exact lb_586 hl hL nx b2
  rw [if_neg c8]
  by_cases c9 : (xs (nI i).toNatClampNeg) &&& 63 = 9
  · rw [if_pos c9]; exact lb_609 hl hL nx b2
  rw [if_neg c9]
  by_cases c10 : (xs (nI i).toNatClampNeg) &&& 63 = 10
  · rw [if_pos c10]; exact lb_632 hl hL nx b2
  rw [if_neg c10]
  by_cases c11 : (xs (nI i).toNatClampNeg) &&& 63 = 11
  · rw [if_pos c11]; exact lb_665 hl hL nx b2
  rw [if_neg c11]
  by_cases c12 : (xs (nI i).toNatClampNeg) &&& 63 = 12
  · rw [if_pos c12]; exact lb_708 hl hL nx b2
  rw [if_neg c12]
  by_cases c13 : (xs (nI i).toNatClampNeg) &&& 63 = 13
  · rw [if_pos c13]; exact lb_751 hl hL nx b2
  rw [if_neg c13]
  by_cases c14 : (xs (nI i).toNatClampNeg) &&& 63 = 14
  · rw [if_pos c14]; exact lb_784 hl hL nx b2
  rw [if_neg c14]
  by_cases c15 : (xs (nI i).toNatClampNeg) &&& 63 = 15
  · rw [if_pos c15]; exact lb_847 hl hL nx b2
  rw [if_neg c15]
  by_cases c16 : (xs (nI i).toNatClampNeg) &&& 63 = 16
  · rw [if_pos c16]; exact lb_891 hl hL nx b2
  rw [if_neg c16]
  by_cases c17 : (xs (nI i).toNatClampNeg) &&& 63 = 17
  · rw [if_pos c17]; exact lb_965 hl hL nx b2
  rw [if_neg c17]
  by_cases c18 : (xs (nI i).toNatClampNeg) &&& 63 = 18
  · rw [if_pos c18]; exact lb_1029 hl hL nx b2
  rw [if_neg c18]
  by_cases c19 : (xs (nI i).toNatClampNeg) &&& 63 = 19
  · rw [if_pos c19]; exact lb_1063 hl hL nx b2
  rw [if_neg c19]
  by_cases c20 : (xs (nI i).toNatClampNeg) &&& 63 = 20
  · rw [if_pos c20]; exact lb_1096 hl hL nx b2
  rw [if_neg c20]
  by_cases c21 : (xs (nI i).toNatClampNeg) &&& 63 = 21
  · rw [if_pos c21]; exact lb_1149 hl hL nx b2
  rw [if_neg c21]
  by_cases c22 : (xs (nI i).toNatClampNeg) &&& 63 = 22
  · rw [if_pos c22]; exact lb_1182 hl hL nx b2
  rw [if_neg c22]
  by_cases c23 : (xs (nI i).toNatClampNeg) &&& 63 = 23
  · rw [if_pos c23]; exact lb_1226 hl hL nx b2
  rw [if_neg c23]
  by_cases c24 : (xs (nI i).toNatClampNeg) &&& 63 = 24
  · rw [if_pos c24]; exact lb_1279 hl hL nx b2
  rw [if_neg c24]
  by_cases c25 : (xs (nI i).toNatClampNeg) &&& 63 = 25
  · rw [if_pos c25]; exact lb_1342 hl hL nx b2
  rw [if_neg c25]
  by_cases c26 : (xs (nI i).toNatClampNeg) &&& 63 = 26
  · rw [if_pos c26]; exact lb_1365 hl hL nx b2
  rw [if_neg c26]
  by_cases c27 : (xs (nI i).toNatClampNeg) &&& 63 = 27
  · rw [if_pos c27]; exact lb_1378 hl hL nx b2
  rw [if_neg c27]
  by_cases c28 : (xs (nI i).toNatClampNeg) &&& 63 = 28
  · rw [if_pos c28]; exact lb_1431 hl hL nx b2
  rw [if_neg c28]
  by_cases c29 : (xs (nI i).toNatClampNeg) &&& 63 = 29
  · rw [if_pos c29]; exact lb_1454 hl hL nx b2
  rw [if_neg c29]
  by_cases c30 : (xs (nI i).toNatClampNeg) &&& 63 = 30
  · rw [if_pos c30]; exact lb_1478 hl hL nx b2
  rw [if_neg c30]
  by_cases c31 : (xs (nI i).toNatClampNeg) &&& 63 = 31
  · rw [if_pos c31]; exact lb_1502 hl hL nx b2
  rw [if_neg c31]
  by_cases c32 : (xs (nI i).toNatClampNeg) &&& 63 = 32
  · rw [if_pos c32]; exact lb_1545 hl hL nx b2
  rw [if_neg c32]
  by_cases c33 : (xs (nI i).toNatClampNeg) &&& 63 = 33
  · rw [if_pos c33]; exact lb_1559 hl hL nx b2
  rw [if_neg c33]
  by_cases c34 : (xs (nI i).toNatClampNeg) &&& 63 = 34
  · rw [if_pos c34]; exact lb_1572 hl hL nx b2
  rw [if_neg c34]
  by_cases c35 : (xs (nI i).toNatClampNeg) &&& 63 = 35
  · rw [if_pos c35]; exact lb_1635 hl hL nx b2
  rw [if_neg c35]
  by_cases c36 : (xs (nI i).toNatClampNeg) &&& 63 = 36
  · rw [if_pos c36]; exact lb_1648 hl hL nx b2
  rw [if_neg c36]
  by_cases c37 : (xs (nI i).toNatClampNeg) &&& 63 = 37
  · rw [if_pos c37]; exact lb_1671 hl hL nx b2
  rw [if_neg c37]
  by_cases c38 : (xs (nI i).toNatClampNeg) &&& 63 = 38
  · rw [if_pos c38]; exact lb_1694 hl hL nx b2
  rw [if_neg c38]
  by_cases c39 : (xs (nI i).toNatClampNeg) &&& 63 = 39
  · rw [if_pos c39]; exact lb_1727 hl hL nx b2
  rw [if_neg c39]
  by_cases c40 : (xs (nI i).toNatClampNeg) &&& 63 = 40
  · rw [if_pos c40]; exact lb_1750 hl hL nx b2
  rw [if_neg c40]
  exact lb_1763 nx b2
/-! the start -/
def σ0 : SG := (fun _ => none, fun _ => none, 0, none, [])
theorem I0_n {i k : Nat} (h : shp[i]? ≠ some (4, 0)) : I0 i k = 0 := by
  unfold I0
  rw [if_neg (fun hh => h hh.1)]
theorem I0_k {i k : Nat} (h : k ≠ 0) : I0 i k = 0 := by
  unfold I0
  rw [if_neg (fun hh => h hh.2)]
theorem I1_n {i k : Nat} (hi : i ≠ 178) : I1 i k = I0 i k := by
  unfold I1
  rw [if_neg (fun hh => hi hh.1)]
theorem pl_shp : ∀ p, p < 16 → shp[1 + 64 + 7 * p]? = some (4, 0) := by decide +kernel
theorem start_S : AbsS I1 J0 σ0 := by
  refine ⟨fun p hp => ⟨?_, ?_⟩, ?_, ⟨?_, ?_, ?_, ?_, rfl⟩, ⟨⟨by decide, (fun q hq => by cases hq), List.nodup_nil⟩, ?_, (fun i q hq => by simp [σ0] at hq)⟩, 0, by decide, ?_, (fun i hi => absurd hi (Nat.not_lt_zero _)), fun q _ _ => ?_⟩
  · show I1 (1 + 64 + 7 * p) 0 = -1
    rw [I1_n (by omega)]
    unfold I0
    rw [if_pos ⟨pl_shp p hp, rfl⟩]
  · show I1 (1 + 64 + 7 * p) 5 = 0
    rw [I1_n (by omega), I0_k (by decide)]
  · show I1 0 8 = 0
    rw [I1_n (by decide), I0_k (by decide)]
  · show I1 37 0 = 0
    rw [I1_n (by decide), I0_n (by decide +kernel)]
  · show I1 37 2 = 0
    rw [I1_n (by decide), I0_k (by decide)]
  · show I1 37 3 = 0
    rw [I1_n (by decide), I0_k (by decide)]
  · show I1 37 4 = 0
    rw [I1_n (by decide), I0_k (by decide)]
  · show I1 52 0 = 0
    rw [I1_n (by decide), I0_n (by decide +kernel)]
  · show I1 2 0 = 0
    rw [I1_n (by decide), I0_n (by decide +kernel)]
  · rw [I1_n (by decide), I0_n (by decide +kernel)]
theorem start_M : AbsM I1 J0 σ0 := by
  refine ⟨fun p hp => ⟨?_, ?_⟩, ?_, ?_, ⟨by decide, (fun q hq => by cases hq), List.nodup_nil⟩, ?_, (fun i q hq => by simp [σ0] at hq)⟩
  · show I1 178 p = -1
    unfold I1
    rw [if_pos ⟨rfl, hp⟩]
  · show I1 183 p = 0
    rw [I1_n (by decide), I0_n (by decide +kernel)]
  · show I1 177 13 = 0
    rw [I1_n (by decide), I0_k (by decide)]
  · show I1 177 49 = 0
    rw [I1_n (by decide), I0_k (by decide)]
  · show I1 177 59 = 0
    rw [I1_n (by decide), I0_k (by decide)]
theorem whole_HP : ∀ (L : Nat) (xs : Nat → Int32), L ≤ 3072 → f_law L xs I1 J0 := fun L xs hL => law_loop hL ⟨start_S, start_M⟩
