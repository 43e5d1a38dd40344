/-! answer, forget -/
def KSg {α : Type} (I : MI) (J : MJ) (r : α × SG) (Q : α → MI → MJ → Prop) : Prop := ∀ (I' : MI) (J' : MJ), FrS I I' J J' → AbsS I' J' r.2 → Q r.1 I' J'
def KMg {α : Type} (I : MI) (J : MJ) (r : α × SG) (Q : α → MI → MJ → Prop) : Prop := ∀ (I' : MI) (J' : MJ), FrM I I' J J' → AbsM I' J' r.2 → Q r.1 I' J'
def ansT (t : AM ⊕ TE) (x : Int64) (w : List Nat) : Nat := match t with
  | .inl A => ansF A (0, 0) w
  | .inr e => if x ∈ e.2.2.2 then 9 else ansF e.2.1 (0, 0) w
noncomputable section
def opAnswer (x : Int32) (y : Int64) (σ : SG) : Int32 := match plc x with
  | none => -1
  | some p => match σ.1 p with
    | none => -1
    | some t => match decW y with
      | none => -1
      | some w => nI (ansT t y w)
end
theorem mem_get {L : List Int64} {x : Int64} : x ∈ L ↔ ∃ i : Nat, L[i]? = some x := List.mem_iff_getElem?
theorem s_hasF {o : Nat} {L : List Int64} {x : Int64} {I : MI} {J : MJ} {Q : Int32 → MI → MJ → Prop} (h1 : I o 3 = nI L.length) (h8 : L.length ≤ 8) (h2 : ∀ (i : Nat) (w : Int64), L[i]? = some w → J (o + 6) i = w) (q1 : x ∈ L → Q 1 I J) (q0 : x ∉ L → Q 0 I J) : f_Place_hasForgotten o x I J Q := by
  unfold f_Place_hasForgotten
  refine lp1 (fun n (i : Nat) => f_Place_hasForgotten_L2 o x _ _ n (nI i) I J) (fun i => i ≤ L.length ∧ ∀ j, j < i → L[j]? ≠ some x) (fun i => L.length - i) ?_ 0 ⟨Nat.zero_le _, fun j hj => absurd hj (Nat.not_lt_zero _)⟩
  rintro n i ⟨hi, hn⟩ ih
  unfold f_Place_hasForgotten_L2
  rw [h1]
  by_cases e : i = L.length
  · rw [if_pos (show nI L.length ≤ nI i by rw [e, leNN (by omega) (by omega)]; omega)]
    refine q0 (fun hh => ?_)
    obtain ⟨j, hj⟩ := mem_get.mp hh
    exact hn j (by have := (List.getElem?_eq_some_iff.mp hj).1; omega) hj
  · rw [if_neg (show ¬ nI L.length ≤ nI i by rw [leNN (by omega) (by omega)]; omega), vpN (by omega), nI_clamp (by omega)]
    refine ⟨by omega, ?_⟩
    have hg : L[i]? = some (L[i]'(by omega)) := List.getElem?_eq_getElem (by omega)
    rw [h2 i _ hg]
    by_cases ex : L[i]'(by omega) = x
    · rw [if_pos ex]
      exact q1 (mem_get.mpr ⟨i, by rw [hg, ex]⟩)
    · rw [if_neg ex]
      intro t et
      rw [et, nI_1]
      refine ih (i + 1) ⟨by omega, fun j hj => ?_⟩ (by omega)
      by_cases hji : j = i
      · rw [hji, hg]; intro hh; cases hh; exact ex rfl
      · exact hn j (by omega)
theorem m_isG {p : Nat} {L : List Int64} {x : Int64} {I : MI} {J : MJ} {Q : Int32 → MI → MJ → Prop} (hp : p < 16) (h1 : I 181 p = nI L.length) (h8 : L.length ≤ 8) (h2 : ∀ (i : Nat) (w : Int64), L[i]? = some w → J 180 (8 * p + i) = w) (q1 : x ∈ L → Q 1 I J) (q0 : x ∉ L → Q 0 I J) : f_Model_isGone (nI p) x I J Q := by
  unfold f_Model_isGone
  refine lp2 (fun n (u1_ : Nat) (u2_ : Bool) => f_Model_isGone_L6 (nI p) x _ n (if u2_ then 1 else 0) (nI u1_) I J) (fun u1_ u2_ => u1_ ≤ L.length ∧ (u2_ = true ↔ ∃ j, j < u1_ ∧ L[j]? = some x)) (fun u1_ u2_ => L.length - u1_) ?_ 0 false ⟨Nat.zero_le _, by simp⟩
  rintro n i b ⟨hi, hn⟩ ih
  unfold f_Model_isGone_L6
  rw [vpN (by omega), nI_clamp (by omega), h1]
  refine ⟨hp, ?_⟩
  by_cases e : i = L.length
  · rw [if_pos (show nI L.length ≤ nI i by rw [e, leNN (by omega) (by omega)]; omega)]
    cases b with
    | true =>
      obtain ⟨j, _, hj⟩ := hn.mp rfl
      exact ⟨Or.inr rfl, q1 (mem_get.mpr ⟨j, hj⟩)⟩
    | false =>
      refine ⟨Or.inl rfl, q0 (fun hh => ?_)⟩
      obtain ⟨j, hj⟩ := mem_get.mp hh
      have := hn.mpr ⟨j, by have := (List.getElem?_eq_some_iff.mp hj).1; omega, hj⟩
      cases this
  · rw [if_neg (show ¬ nI L.length ≤ nI i by rw [leNN (by omega) (by omega)]; omega)]
    unfold f_Model_isGone_b39 f_Model_isGone_b44
    have hg : L[i]? = some (L[i]'(by omega)) := List.getElem?_eq_getElem (by omega)
    cases b with
    | true =>
      rw [if_neg (by decide)]
      intro t et
      rw [et, nI_1]
      obtain ⟨j, hj1, hj⟩ := hn.mp rfl
      exact ih (i + 1) true ⟨by omega, by simp only [true_iff]; exact ⟨j, by omega, hj⟩⟩ (by omega)
    | false =>
      rw [if_pos (by decide), l8, pk_mul, nI_add, vpN (by omega), nI_clamp (by omega), h2 i _ hg]
      refine ⟨by omega, ?_⟩
      by_cases ex : L[i]'(by omega) = x
      · rw [if_pos ex]
        intro t et
        rw [et, nI_1]
        exact ih (i + 1) true ⟨by omega, by simp only [true_iff]; exact ⟨i, by omega, by rw [hg, ex]⟩⟩ (by omega)
      · rw [if_neg ex]
        intro t et
        rw [et, nI_1]
        refine ih (i + 1) false ⟨by omega, ?_⟩ (by omega)
        simp only [Bool.false_eq_true, false_iff]
        rintro ⟨j, hj1, hj⟩
        by_cases hji : j = i
        · rw [hji, hg] at hj; cases hj; exact ex rfl
        · have := hn.mpr ⟨j, by omega, hj⟩
          cases this
theorem s_plAns {p : Nat} {t : AM ⊕ TE} {w : List Nat} {I : MI} {J : MJ} {Q : Int32 → MI → MJ → Prop} (hP : PlS I J (1 + 64 + 7 * p) (some t)) (hw : wOk w) (q : Q (nI (ansT t (lN (num w)) w)) I J) : f_Place_answerTo (1 + 64 + 7 * p) (lN (num w)) I J Q := by
  unfold f_Place_answerTo f_Place_answerTo_b21 f_Place_answerTo_b22
  cases t with
  | inl A =>
    obtain ⟨g1, g2, g3⟩ := hP
    have := g3.1
    rw [g1, if_neg (show ¬ nI A.1 = 6 by rw [l6, eqNN (by omega) (by decide)]; omega), if_pos rfl]
    exact s_ansTo g2 g3 hw q
  | inr e =>
    obtain ⟨g1, g2, g3, g4, g5, g6⟩ := hP
    have h2 := g3.1
    have hv := g3.2.1.1
    rw [g1]
    unfold ansT at q
    simp only at q
    by_cases h6 : e.1 = 2
    · rw [if_pos (show nI (4 + e.1) = 6 by rw [h6]; rfl)]
      refine s_hasF g5 g3.2.2.2.1 g6 (fun hh => ?_) (fun hh => ?_)
      · rw [if_neg (by decide), if_neg (by decide)]
        rw [if_pos hh] at q
        exact q
      · rw [if_pos rfl, if_pos rfl]
        rw [if_neg hh] at q
        exact s_ansTo g2 hv hw q
    · rw [if_neg (show ¬ nI (4 + e.1) = 6 by rw [l6, eqNN (by omega) (by decide)]; omega), if_pos rfl]
      rw [if_neg (by rw [g3.2.2.2.2 (by omega)]; simp)] at q
      exact s_ansTo g2 hv hw q
theorem m_plAns {p : Nat} {t : AM ⊕ TE} {w : List Nat} {I : MI} {J : MJ} {Q : Int32 → MI → MJ → Prop} (hp : p < 16) (hP : PlM I J p (some t)) (hw : wOk w) (q : ∀ I', Sc I I' → Q (nI (ansT t (lN (num w)) w)) I' J) : (if (I 178 p) ≤ 3 then f_Model_answer_b49 (nI p) (lN (num w)) Q I J else f_Model_isGone (nI p) (lN (num w)) I J (fun r38 I38 J38 => (if r38 = 0 then f_Model_answer_b49 (nI p) (lN (num w)) Q I38 J38 else Q 9 I38 J38))) := by
  unfold f_Model_answer_b49
  cases t with
  | inl A =>
    obtain ⟨g1, g2, g3⟩ := hP
    have := g3.1
    rw [g1, if_pos (show nI A.1 ≤ 3 by rw [l3, leNN (by omega) (by decide)]; omega)]
    exact m_ansBy (by omega) g2 g3 hw q
  | inr e =>
    obtain ⟨g1, g2, g3, g4, g5, g6⟩ := hP
    have h2 := g3.1
    have hv := g3.2.1.1
    rw [g1, if_neg (show ¬ nI (4 + e.1) ≤ 3 by rw [l3, leNN (by omega) (by decide)]; omega)]
    unfold ansT at q
    simp only at q
    refine m_isG hp g5 g3.2.2.2.1 g6 (fun hh => ?_) (fun hh => ?_)
    · rw [if_neg (by decide)]
      rw [if_pos hh] at q
      exact q I Sc.rf
    · rw [if_pos rfl]
      rw [if_neg hh] at q
      exact m_ansBy (by omega) g2 hv hw q
theorem S_answer {x : Int32} {y : Int64} {I : MI} {J : MJ} {σ : SG} {Q : Int32 → MI → MJ → Prop} (h : AbsS I J σ) (q : Q (opAnswer x y σ) I J) : f_School_answer x y I J Q := by
  unfold f_School_answer
  rw [S_thing h]
  unfold opAnswer at q
  rcases plc_cases x with ⟨p, hp, rfl, e⟩ | ⟨hb, e⟩
  · rw [e] at q
    simp only at q
    cases ht : σ.1 p with
    | none =>
      rw [ht] at q
      rw [fT_n hp ht, if_neg (by decide)]
      exact q
    | some t =>
      rw [ht] at q
      rw [fT_s hp ht, if_pos rfl]
      have hP := (h.1 p hp).1
      rw [ht] at hP
      simp only at q
      rcases wd_cases y with ⟨w, hw, rfl, ew⟩ | ⟨hn, ew⟩
      · rw [ew] at q
        refine s_isW hw ?_
        rw [if_neg (by decide), vpN (by omega), nI_clamp (by omega)]
        exact ⟨hp, s_plAns hP hw q⟩
      · rw [ew] at q
        exact s_isWB hn (by rw [if_pos rfl]; exact q)
  · rw [e] at q
    rw [fT_b hb, if_neg (by decide)]
    exact q
theorem M_answer {x : Int32} {y : Int64} {I : MI} {J : MJ} {σ : SG} {Q : Int32 → MI → MJ → Prop} (h : AbsM I J σ) (q : ∀ I', Sc I I' → Q (opAnswer x y σ) I' J) : f_Model_answer x y I J Q := by
  unfold f_Model_answer
  unfold opAnswer at q
  rcases plc_cases x with ⟨p, hp, rfl, e⟩ | ⟨hb, e⟩
  · rw [e] at q
    rw [m_isPlaceN hp, if_neg (by decide), nI_clamp (by omega), vpN (by omega), (h.1 p hp).1.lie]
    refine ⟨hp, ?_⟩
    simp only at q
    cases ht : σ.1 p with
    | none =>
      rw [ht] at q
      rw [if_pos (by decide)]
      exact q I Sc.rf
    | some t =>
      rw [ht] at q
      have hP := (h.1 p hp).1
      have hl := hP.lie
      rw [ht] at hP hl
      have hk : ¬ thK (some t) < 0 := by
        rcases thK_rngM hP with ⟨h1, h2⟩ | ⟨A, h1, n, h2, h3⟩ | ⟨A, h1, n, h2, h3, h4⟩
        · cases h1
        · rw [h3]; exact nI0_lt (by omega)
        · rw [h4]; exact nI0_lt (by omega)
      rw [if_neg hk]
      simp only at q
      rcases wd_cases y with ⟨w, hw, rfl, ew⟩ | ⟨hn, ew⟩
      · rw [ew] at q
        refine m_isW hw ?_
        rw [if_neg (by decide)]
        have := m_plAns hp hP hw q
        exact ⟨hp, this⟩
      · rw [ew] at q
        exact m_isWB hn (by rw [if_pos rfl]; exact q I Sc.rf)
  · rw [e] at q
    rw [m_isPlaceB hb, if_pos rfl]
    exact q I Sc.rf
