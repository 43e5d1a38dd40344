def thK : TH → Int32
  | none => -1
  | some (.inl A) => nI A.1
  | some (.inr t) => nI (4 + t.1)
theorem PlS.lie {I : MI} {J : MJ} {b : Nat} {t : TH} (h : PlS I J b t) : I b 0 = thK t := by
  match t, h with
  | none, h => exact h
  | some (.inl A), h => exact h.1
  | some (.inr t), h => exact h.1
theorem PlM.lie {I : MI} {J : MJ} {p : Nat} {t : TH} (h : PlM I J p t) : I 178 p = thK t := by
  match t, h with
  | none, h => exact h
  | some (.inl A), h => exact h.1
  | some (.inr t), h => exact h.1
def opKind (x : Int32) (σ : SG) : Int32 := match plc x with
  | none => -1
  | some p => thK (σ.1 p)
theorem S_kind {x : Int32} {I : MI} {J : MJ} {σ : SG} {Q : Int32 → MI → MJ → Prop} (h : AbsS I J σ) (hq : Q (opKind x σ) I J) : f_School_kind x I J Q := by
  unfold f_School_kind
  unfold opKind at hq
  rcases plc_cases x with ⟨p, hp, rfl, e⟩ | ⟨hb, e⟩
  · rw [s_isPlaceN hp, if_neg (by decide), nI_clamp (by omega), (h.1 p hp).1.lie]
    rw [e] at hq
    exact ⟨(vpN (by omega)).mpr hp, hq⟩
  · rw [s_isPlaceB hb, if_pos rfl]
    rw [e] at hq
    exact hq
theorem M_kind {x : Int32} {I : MI} {J : MJ} {σ : SG} {Q : Int32 → MI → MJ → Prop} (h : AbsM I J σ) (hq : Q (opKind x σ) I J) : f_Model_kind x I J Q := by
  unfold f_Model_kind
  unfold opKind at hq
  rcases plc_cases x with ⟨p, hp, rfl, e⟩ | ⟨hb, e⟩
  · rw [m_isPlaceN hp, if_neg (by decide), nI_clamp (by omega), (h.1 p hp).1.lie]
    rw [e] at hq
    exact ⟨(vpN (by omega)).mpr hp, hq⟩
  · rw [m_isPlaceB hb, if_pos rfl]
    rw [e] at hq
    exact hq
theorem S_status {I : MI} {J : MJ} {σ : SG} {Q : Int32 → MI → MJ → Prop} (h : AbsS I J σ) (hq : Q σ.2.2.1 I J) : f_School_status I J Q := by
  unfold f_School_status
  rw [h.2.1]
  exact hq
theorem M_status {I : MI} {J : MJ} {σ : SG} {Q : Int32 → MI → MJ → Prop} (h : AbsM I J σ) (hq : Q σ.2.2.1 I J) : f_Model_status I J Q := by
  unfold f_Model_status
  rw [h.2.1]
  exact hq
/-- what a method that is told asks: its answer and its state, in the class' cells and in the reference's -/
def KS (I : MI) (J : MJ) (r : Int32 × SG) (Q : Int32 → MI → MJ → Prop) : Prop := ∀ (I' : MI) (J' : MJ), FrS I I' J J' → AbsS I' J' r.2 → Q r.1 I' J'
def KM (I : MI) (J : MJ) (r : Int32 × SG) (Q : Int32 → MI → MJ → Prop) : Prop := ∀ (I' : MI) (J' : MJ), FrM I I' J J' → AbsM I' J' r.2 → Q r.1 I' J'
theorem KS.ref {I : MI} {J : MJ} {σ : SG} {v : Int32} {Q : Int32 → MI → MJ → Prop} (k : KS I J (ref v σ) Q) (h : AbsS I J σ) : f_School_refuse v I J (fun r I' J' => Q r I' J') := by
  rw [s_refuse]
  exact k _ _ (FrS.fn v) (h.fn v)
theorem KM.ref {I : MI} {J : MJ} {σ : SG} {v : Int32} {Q : Int32 → MI → MJ → Prop} (k : KM I J (ref v σ) Q) (h : AbsM I J σ) : f_Model_refuse v I J (fun r I' J' => Q r I' J') := by
  rw [m_refuse]
  exact k _ _ (FrM.fn v) (h.fn v)
theorem KS.don {I0 I : MI} {J0 J : MJ} {σ : SG} {v : Int32} {Q : Int32 → MI → MJ → Prop} (k : KS I0 J0 (don v σ) Q) (hf : FrS I0 I J0 J) (h : AbsS I J σ) : f_School_done v I J (fun r I' J' => Q r I' J') := by
  rw [s_done]
  exact k _ _ (hf.tr (FrS.fn 0)) (h.fn 0)
theorem KM.don {I0 I : MI} {J0 J : MJ} {σ : SG} {v : Int32} {Q : Int32 → MI → MJ → Prop} (k : KM I0 J0 (don v σ) Q) (hf : FrM I0 I J0 J) (h : AbsM I J σ) : f_Model_done v I J (fun r I' J' => Q r I' J') := by
  rw [m_done]
  exact k _ _ (hf.tr (FrM.fn 0)) (h.fn 0)
/-- the finding of a place without anything, and of one without a machine -/
def fT (σ : SG) (x : Int32) : Int32 := match plc x with
  | none => 2
  | some p => match σ.1 p with
    | none => 1
    | some _ => 0
def fMa (σ : SG) (x : Int32) : Int32 := match plc x with
  | none => 2
  | some p => match σ.1 p with
    | none => 1
    | some (.inl _) => 0
    | some (.inr _) => 4
theorem plcN {p : Nat} (hp : p < 16) : plc (nI p) = some p := by unfold plc; rw [if_neg (pl_no hp), nI_clamp (by omega)]
theorem plcB {x : Int32} (h : x < 0 ∨ 16 ≤ x) : plc x = none := by unfold plc; rw [if_pos h]
theorem fT_n {σ : SG} {p : Nat} (hp : p < 16) (h : σ.1 p = none) : fT σ (nI p) = 1 := by simp [fT, plcN hp, h]
theorem fT_s {σ : SG} {p : Nat} (hp : p < 16) {t : AM ⊕ TE} (h : σ.1 p = some t) : fT σ (nI p) = 0 := by simp [fT, plcN hp, h]
theorem fT_b {σ : SG} {x : Int32} (h : x < 0 ∨ 16 ≤ x) : fT σ x = 2 := by simp [fT, plcB h]
theorem fMa_n {σ : SG} {p : Nat} (hp : p < 16) (h : σ.1 p = none) : fMa σ (nI p) = 1 := by simp [fMa, plcN hp, h]
theorem fMa_l {σ : SG} {p : Nat} (hp : p < 16) {A : AM} (h : σ.1 p = some (.inl A)) : fMa σ (nI p) = 0 := by simp [fMa, plcN hp, h]
theorem fMa_r {σ : SG} {p : Nat} (hp : p < 16) {t : TE} (h : σ.1 p = some (.inr t)) : fMa σ (nI p) = 4 := by simp [fMa, plcN hp, h]
theorem fMa_b {σ : SG} {x : Int32} (h : x < 0 ∨ 16 ≤ x) : fMa σ x = 2 := by simp [fMa, plcB h]
theorem thK_rng {I : MI} {J : MJ} {b : Nat} {t : TH} (h : PlS I J b t) : (t = none ∧ thK t = -1) ∨ (∃ A, t = some (.inl A) ∧ ∃ k, k ≤ 3 ∧ thK t = nI k) ∨ ∃ e, t = some (.inr e) ∧ ∃ k, 4 ≤ k ∧ k ≤ 6 ∧ thK t = nI k := by
  match t, h with
  | none, h => exact Or.inl ⟨rfl, rfl⟩
  | some (.inl A), h => exact Or.inr (Or.inl ⟨A, rfl, A.1, h.2.2.1, rfl⟩)
  | some (.inr t), h => exact Or.inr (Or.inr ⟨t, rfl, 4 + t.1, by omega, by have := h.2.2.1.1; omega, rfl⟩)
theorem thK_rngM {I : MI} {J : MJ} {b : Nat} {t : TH} (h : PlM I J b t) : (t = none ∧ thK t = -1) ∨ (∃ A, t = some (.inl A) ∧ ∃ k, k ≤ 3 ∧ thK t = nI k) ∨ ∃ e, t = some (.inr e) ∧ ∃ k, 4 ≤ k ∧ k ≤ 6 ∧ thK t = nI k := by
  match t, h with
  | none, h => exact Or.inl ⟨rfl, rfl⟩
  | some (.inl A), h => exact Or.inr (Or.inl ⟨A, rfl, A.1, h.2.2.1, rfl⟩)
  | some (.inr t), h => exact Or.inr (Or.inr ⟨t, rfl, 4 + t.1, by omega, by have := h.2.2.1.1; omega, rfl⟩)
theorem S_thing {x : Int32} {I : MI} {J : MJ} {σ : SG} {Q : Int32 → MI → MJ → Prop} (h : AbsS I J σ) : f_School_thingFault x I J Q ↔ Q (fT σ x) I J := by
  unfold f_School_thingFault
  rcases plc_cases x with ⟨p, hp, rfl, e⟩ | ⟨hb, e⟩
  · rw [s_isPlaceN hp, if_neg (by decide), nI_clamp (by omega), (h.1 p hp).1.lie, vpN (by omega)]
    rcases thK_rng (h.1 p hp).1 with ⟨h1, h2⟩ | ⟨A, h1, k, h2, h3⟩ | ⟨A, h1, k, h2, h3, h4⟩
    · rw [h2, fT_n hp h1]; simp [hp]
    · rw [h3, fT_s hp h1, if_neg (lm1 (by omega))]; simp [hp]
    · rw [h4, fT_s hp h1, if_neg (lm1 (by omega))]; simp [hp]
  · rw [s_isPlaceB hb, if_pos rfl, fT_b hb]
theorem S_machF {x : Int32} {I : MI} {J : MJ} {σ : SG} {Q : Int32 → MI → MJ → Prop} (h : AbsS I J σ) : f_School_machineFault x I J Q ↔ Q (fMa σ x) I J := by
  unfold f_School_machineFault
  rw [S_thing h]
  unfold f_Place_hasMachine
  rcases plc_cases x with ⟨p, hp, rfl, e⟩ | ⟨hb, e⟩
  · rw [vpN (by omega), nI_clamp (by omega), (h.1 p hp).1.lie]
    rcases thK_rng (h.1 p hp).1 with ⟨h1, h2⟩ | ⟨A, h1, k, h2, h3⟩ | ⟨A, h1, k, h2, h3, h4⟩
    · rw [fT_n hp h1, fMa_n hp h1]; simp
    · rw [h3, fT_s hp h1, fMa_l hp h1]; simp (disch := omega) only [l0, l1, l2, l3, l4, l5, l6, l7, l8, l9, l10, l11, l12, l13, l14, l15, l16, l17, l18, l19, l20, l30, l31, l56, l63, l64, l128, l200, l225, l255, l256, l300, l512, pk_mul, nI_add, nI_clamp, vpN, ltNN, leNN, eqNN, eqm1, eqm1', ltm1, lem1, m1lt, m1le, if_true, if_false, ite_true, ite_false, true_and, and_true, and_self, not_true_eq_false, not_false_eq_true, hp, show ¬ k < 0 by omega, show ¬ 3 < k by omega, show ¬ 1 = 0 by omega]
    · rw [h4, fT_s hp h1, fMa_r hp h1]; simp (disch := omega) only [l0, l1, l2, l3, l4, l5, l6, l7, l8, l9, l10, l11, l12, l13, l14, l15, l16, l17, l18, l19, l20, l30, l31, l56, l63, l64, l128, l200, l225, l255, l256, l300, l512, pk_mul, nI_add, nI_clamp, vpN, ltNN, leNN, eqNN, eqm1, eqm1', ltm1, lem1, m1lt, m1le, if_true, if_false, ite_true, ite_false, true_and, and_true, and_self, not_true_eq_false, not_false_eq_true, hp, show ¬ k < 0 by omega, show 3 < k by omega]
  · rw [fT_b hb, fMa_b hb]; simp
theorem M_noM {x : Int32} {I : MI} {J : MJ} {σ : SG} {Q : Int32 → MI → MJ → Prop} (h : AbsM I J σ) : f_Model_noMachine x I J Q ↔ Q (fMa σ x) I J := by
  unfold f_Model_noMachine
  rcases plc_cases x with ⟨p, hp, rfl, e⟩ | ⟨hb, e⟩
  · rw [m_isPlaceN hp, if_neg (by decide), nI_clamp (by omega), (h.1 p hp).1.lie, vpN (by omega)]
    rcases thK_rngM (h.1 p hp).1 with ⟨h1, h2⟩ | ⟨A, h1, k, h2, h3⟩ | ⟨A, h1, k, h2, h3, h4⟩
    · rw [h2, fMa_n hp h1]; simp [hp]
    · rw [h3, fMa_l hp h1]; simp (disch := omega) only [l0, l1, l2, l3, l4, l5, l6, l7, l8, l9, l10, l11, l12, l13, l14, l15, l16, l17, l18, l19, l20, l30, l31, l56, l63, l64, l128, l200, l225, l255, l256, l300, l512, pk_mul, nI_add, nI_clamp, vpN, ltNN, leNN, eqNN, eqm1, eqm1', ltm1, lem1, m1lt, m1le, if_true, if_false, ite_true, ite_false, true_and, and_true, and_self, not_true_eq_false, not_false_eq_true, hp, show 0 ≤ k by omega, show k ≤ 3 by omega]
    · rw [h4, fMa_r hp h1]; simp (disch := omega) only [l0, l1, l2, l3, l4, l5, l6, l7, l8, l9, l10, l11, l12, l13, l14, l15, l16, l17, l18, l19, l20, l30, l31, l56, l63, l64, l128, l200, l225, l255, l256, l300, l512, pk_mul, nI_add, nI_clamp, vpN, ltNN, leNN, eqNN, eqm1, eqm1', ltm1, lem1, m1lt, m1le, if_true, if_false, ite_true, ite_false, true_and, and_true, and_self, not_true_eq_false, not_false_eq_true, hp, show 0 ≤ k by omega, show ¬ k ≤ 3 by omega]
  · rw [m_isPlaceB hb, if_pos rfl, fMa_b hb]
theorem M_isM {x : Int32} {I : MI} {J : MJ} {σ : SG} {Q : Int32 → MI → MJ → Prop} (h : AbsM I J σ) : f_Model_isMachine x I J Q ↔ Q (if fMa σ x = 0 then 1 else 0) I J := by
  unfold f_Model_isMachine
  rcases plc_cases x with ⟨p, hp, rfl, e⟩ | ⟨hb, e⟩
  · rw [m_isPlaceN hp, if_neg (by decide), nI_clamp (by omega), (h.1 p hp).1.lie, vpN (by omega)]
    rcases thK_rngM (h.1 p hp).1 with ⟨h1, h2⟩ | ⟨A, h1, k, h2, h3⟩ | ⟨A, h1, k, h2, h3, h4⟩
    · rw [h2, fMa_n hp h1]; simp [hp]
    · rw [h3, fMa_l hp h1]; simp (disch := omega) only [l0, l1, l2, l3, l4, l5, l6, l7, l8, l9, l10, l11, l12, l13, l14, l15, l16, l17, l18, l19, l20, l30, l31, l56, l63, l64, l128, l200, l225, l255, l256, l300, l512, pk_mul, nI_add, nI_clamp, vpN, ltNN, leNN, eqNN, eqm1, eqm1', ltm1, lem1, m1lt, m1le, if_true, if_false, ite_true, ite_false, true_and, and_true, and_self, not_true_eq_false, not_false_eq_true, hp, show ¬ k < 0 by omega, show ¬ 4 ≤ k by omega]
    · rw [h4, fMa_r hp h1]; simp (disch := omega) only [l0, l1, l2, l3, l4, l5, l6, l7, l8, l9, l10, l11, l12, l13, l14, l15, l16, l17, l18, l19, l20, l30, l31, l56, l63, l64, l128, l200, l225, l255, l256, l300, l512, pk_mul, nI_add, nI_clamp, vpN, ltNN, leNN, eqNN, eqm1, eqm1', ltm1, lem1, m1lt, m1le, if_true, if_false, ite_true, ite_false, true_and, and_true, and_self, not_true_eq_false, not_false_eq_true, hp, show ¬ k < 0 by omega, show 4 ≤ k by omega, show ¬ 4 = 0 by omega]
  · rw [m_isPlaceB hb, if_pos rfl, fMa_b hb]; simp
def opLift (x : Int32) (σ : SG) : Int32 × SG := match plc x with
  | none => ref 2 σ
  | some p => match σ.1 p with
    | none => ref 1 σ
    | some _ => don 0 (setF (setD σ p none) p (σ.2.1 p))
theorem S_lift {x : Int32} {I : MI} {J : MJ} {σ : SG} {Q : Int32 → MI → MJ → Prop} (h : AbsS I J σ) (k : KS I J (opLift x σ) Q) : f_School_lift x I J Q := by
  unfold f_School_lift
  rw [S_thing h]
  unfold opLift at k
  rcases plc_cases x with ⟨p, hp, rfl, e⟩ | ⟨hb, e⟩
  · rw [e] at k
    simp only at k
    cases ht : σ.1 p with
    | none =>
      rw [ht] at k
      rw [fT_n hp ht, if_neg (by decide)]
      exact k.ref h
    | some t =>
      rw [ht] at k
      simp only at k
      rw [fT_s hp ht, if_pos rfl, nI_clamp (by omega)]
      refine ⟨(vpN (by omega)).mpr hp, fun I1 e1 => ?_⟩
      subst e1
      refine k.don ⟨fun i hi => sI_n _ _ (by omega), fun _ _ => rfl⟩ (h.at hp (fun i hi h2 => sI_n _ _ (by omega)) (fun _ _ _ => rfl) ?_ ((h.1 p hp).2.kp ?_))
      · show sI _ _ _ _ 0 = -1
        rw [sI_s]; simp [upd]
      · rw [sI_s]; simp [upd]
  · rw [e] at k
    rw [fT_b hb, if_neg (by decide)]
    exact k.ref h
theorem M_lift {x : Int32} {I : MI} {J : MJ} {σ : SG} {Q : Int32 → MI → MJ → Prop} (h : AbsM I J σ) (k : KM I J (opLift x σ) Q) : f_Model_lift x I J Q := by
  unfold f_Model_lift
  unfold opLift at k
  rcases plc_cases x with ⟨p, hp, rfl, e⟩ | ⟨hb, e⟩
  · rw [e] at k
    rw [m_isPlaceN hp, if_neg (by decide), nI_clamp (by omega), (h.1 p hp).1.lie]
    refine ⟨(vpN (by omega)).mpr hp, ?_⟩
    simp only at k
    rcases thK_rngM (h.1 p hp).1 with ⟨h1, h2⟩ | ⟨A, h1, n, h2, h3⟩ | ⟨A, h1, n, h2, h3, h4⟩
    · rw [h2, if_neg (by decide)]
      rw [h1] at k
      exact k.ref h
    all_goals
      (first | rw [h3, if_pos (nI0_le (by omega))] | rw [h4, if_pos (nI0_le (by omega))])
      rw [h1] at k
      refine ⟨(vpN (by omega)).mpr hp, fun I1 e1 => ?_⟩
      subst e1
      have e0 : ∀ i, i ≠ 178 → sI I 178 (upd (I 178) p (-1)) i = I i := fun i hi => sI_n _ _ hi
      refine k.don ⟨fun i hi => sI_n _ _ (by omega), fun _ _ => rfl⟩ (h.at hp (fun q hq h20 => ?_) (fun k hk => by rw [e0 177 (by omega)]) (e0 218 (by omega)) ⟨rfl, rfl, rfl, rfl⟩ ?_ ((h.1 p hp).2.kp ?_))
      · rw [sI_s, e0 179 (by omega), e0 181 (by omega), e0 182 (by omega), e0 183 (by omega)]
        exact ⟨by simp [upd, hq], rfl, rfl, rfl, rfl, MEq.of (fun i a b => e0 i (by omega)), fun _ _ => rfl⟩
      · show sI _ _ _ _ p = -1
        rw [sI_s]; simp [upd]
      · rw [e0 183 (by omega), e0 182 (by omega)]; exact ⟨rfl, rfl⟩
  · rw [e] at k
    rw [m_isPlaceB hb, if_pos rfl]
    exact k.ref h
