/-! forget, know, unknow, fits -/
noncomputable section
def opForget (x : Int32) (y : Int64) (σ : SG) : Int32 × SG := match plc x with
  | none => ref 2 σ
  | some p => match σ.1 p with
    | none => ref 1 σ
    | some (.inl _) => ref 4 σ
    | some (.inr t) => if t.1 ≠ 2 then ref 4 σ else match decW y with
      | none => ref 2 σ
      | some _ => if y ∈ t.2.2.2 then ref 6 σ else if t.2.2.2.length = 8 then ref 5 σ else don (nI (t.2.2.2.length + 1)) (setF (setD σ p (some (.inr (t.1, t.2.1, t.2.2.1, t.2.2.2 ++ [y])))) p (σ.2.1 p))
end
theorem s_fgF {x v : Int32} {y : Int64} {I : MI} {J : MJ} {σ : SG} {Q : Int32 → MI → MJ → Prop} (h : AbsS I J σ) (hv : ¬ v = 0) (q : KS I J (ref v σ) Q) : f_School_forget_b29 x y v Q I J ∧ f_School_forget_b44 x y v Q I J ∧ f_School_forget_b66 x y v Q I J ∧ f_School_forget_b88 x y v Q I J := by
  unfold f_School_forget_b29 f_School_forget_b44 f_School_forget_b66 f_School_forget_b88
  rw [if_neg hv, if_neg hv, if_neg hv, if_neg hv]
  exact ⟨q.ref h, q.ref h, q.ref h, q.ref h⟩
theorem app_get {α : Type} {L : List α} {x y : α} {i : Nat} (h : (L ++ [y])[i]? = some x) : (i < L.length ∧ L[i]? = some x) ∨ (i = L.length ∧ x = y) := by
  by_cases hi : i < L.length
  · rw [List.getElem?_append_left hi] at h
    exact Or.inl ⟨hi, h⟩
  · rw [List.getElem?_append_right (by omega)] at h
    have h1 := (List.getElem?_eq_some_iff.mp h).1
    simp at h1
    have : i = L.length := by omega
    subst this
    simp at h
    exact Or.inr ⟨rfl, h.symm⟩
theorem S_forget {x : Int32} {y : Int64} {I : MI} {J : MJ} {σ : SG} {Q : Int32 → MI → MJ → Prop} (h : AbsS I J σ) (q : KS I J (opForget x y σ) Q) : f_School_forget x y I J Q := by
  unfold f_School_forget
  rw [S_thing h]
  unfold opForget at q
  rcases plc_cases x with ⟨p, hp, rfl, e⟩ | ⟨hb, e⟩
  · rw [e] at q
    simp only at q
    have hP := (h.1 p hp).1
    have hF := (h.1 p hp).2
    cases ht : σ.1 p with
    | none =>
      rw [ht] at q
      rw [fT_n hp ht, if_neg (by decide)]
      exact (s_fgF h (by decide) q).1
    | some t =>
      rw [ht] at q hP
      rw [fT_s hp ht, if_pos rfl, vpN (by omega), nI_clamp (by omega), hP.lie]
      refine ⟨hp, ?_⟩
      cases t with
      | inl A =>
        have := hP.2.2.1
        rw [if_neg (show ¬ thK (some (.inl A)) = 6 by show ¬ nI A.1 = 6; rw [l6, eqNN (by omega) (by decide)]; omega)]
        exact (s_fgF h (by decide) q).1
      | inr t =>
        obtain ⟨g1, g2, g3, g4, g5, g6⟩ := hP
        have h2 := g3.1
        simp only at q
        by_cases h6 : t.1 = 2
        · rw [if_pos (show thK (some (.inr t)) = 6 by show nI (4 + t.1) = 6; rw [h6]; rfl)]
          rw [if_neg (by simp [h6])] at q
          unfold f_School_forget_b29
          rw [if_pos rfl]
          rcases wd_cases y with ⟨w, hw, rfl, ew⟩ | ⟨hn, ew⟩
          · rw [ew] at q
            simp only at q
            refine s_isW hw ?_
            rw [if_neg (by decide)]
            unfold f_School_forget_b44
            rw [if_pos rfl, vpN (by omega), nI_clamp (by omega)]
            refine ⟨hp, s_hasF g5 g3.2.2.2.1 g6 (fun hh => ?_) (fun hh => ?_)⟩
            · rw [if_neg (by decide)]
              rw [if_pos hh] at q
              exact (s_fgF (x := nI p) (y := lN (num w)) h (by decide) q).2.2.1
            · rw [if_pos rfl]
              rw [if_neg hh] at q
              unfold f_School_forget_b66
              have h8 := g3.2.2.2.1
              rw [if_pos rfl, vpN (by omega), nI_clamp (by omega), g5]
              refine ⟨hp, ?_⟩
              by_cases e8 : t.2.2.2.length = 8
              · rw [if_neg (show ¬ nI t.2.2.2.length < 8 by rw [e8]; decide)]
                rw [if_pos e8] at q
                exact (s_fgF (x := nI p) (y := lN (num w)) h (by decide) q).2.2.2
              · rw [if_pos (show nI t.2.2.2.length < 8 by rw [l8, ltNN (by omega) (by decide)]; omega)]
                rw [if_neg e8] at q
                unfold f_School_forget_b88 f_Place_loseWord
                rw [if_pos rfl, vpN (by omega), nI_clamp (by omega), g5, if_neg (show ¬ (8 : Int32) ≤ nI t.2.2.2.length by rw [l8, leNN (by decide) (by omega)]; omega), vpN (by omega), nI_clamp (by omega)]
                refine ⟨hp, by omega, fun J1 e1 I1 e2 => ?_⟩
                have e3 : I1 (1 + 64 + 7 * p) 3 = nI (t.2.2.2.length + 1) := by rw [e2, sI_s, pk_us, nI_1]
                rw [e3]
                have hI : ∀ j, j ≠ 1 + 64 + 7 * p → I1 j = I j := fun j hj => by rw [e2, sI_n _ _ hj]
                have hk : ∀ k, k ≠ 3 → I1 (1 + 64 + 7 * p) k = I (1 + 64 + 7 * p) k := fun k hk => by rw [e2, sI_s, pk_un hk]
                have hJ : ∀ j, j ≠ 1 + 64 + 7 * p + 6 → J1 j = J j := fun j hj => by rw [e1, sJ_at, if_neg hj]
                have hJ6 : ∀ j, J1 (1 + 64 + 7 * p + 6) j = if j = t.2.2.2.length then lN (num w) else J (1 + 64 + 7 * p + 6) j := fun j => by rw [e1, sJ_at, if_pos rfl, updL_at]
                refine q.don ⟨fun j hj => hI j (by omega), fun j hj => hJ j (by omega)⟩ (h.at hp (fun j h1 h2 => hI j (by omega)) (fun j h1 h2 => hJ j (by omega)) ⟨by rw [hk 0 (by decide)]; exact g1, g2.kp (fun i u v => hI i (by omega)), ⟨g3.1, g3.2.1, g3.2.2.1, by simp; omega, (fun hh => by simp only at hh; omega)⟩, by rw [hk 2 (by decide)]; exact g4, by rw [e3]; simp, fun i w' hw' => ?_⟩ (hF.kp ⟨hk 5 (by decide), hk 6 (by decide)⟩))
                rcases app_get hw' with ⟨u1, u2⟩ | ⟨u1, u2⟩
                · rw [hJ6, if_neg (by omega)]; exact g6 i w' u2
                · rw [hJ6, if_pos u1, u2]
          · rw [ew] at q
            exact s_isWB hn (by rw [if_pos rfl]; exact (s_fgF (x := nI p) (y := y) h (by decide) q).2.1)
        · rw [if_neg (show ¬ thK (some (.inr t)) = 6 by show ¬ nI (4 + t.1) = 6; rw [l6, eqNN (by omega) (by decide)]; omega)]
          rw [if_pos h6] at q
          exact (s_fgF h (by decide) q).1
  · rw [e] at q
    rw [fT_b hb, if_neg (by decide)]
    exact (s_fgF h (by decide) q).1
theorem M_forget {x : Int32} {y : Int64} {I : MI} {J : MJ} {σ : SG} {Q : Int32 → MI → MJ → Prop} (h : AbsM I J σ) (q : KM I J (opForget x y σ) Q) : f_Model_forget x y I J Q := by
  unfold f_Model_forget
  unfold opForget at q
  rcases plc_cases x with ⟨p, hp, rfl, e⟩ | ⟨hb, e⟩
  · rw [e] at q
    rw [m_isPlaceN hp, if_neg (by decide), nI_clamp (by omega), vpN (by omega), (h.1 p hp).1.lie]
    refine ⟨hp, ?_⟩
    simp only at q
    have hP := (h.1 p hp).1
    have hF := (h.1 p hp).2
    cases ht : σ.1 p with
    | none =>
      rw [ht] at q
      rw [if_neg (by decide)]
      exact q.ref h
    | some t =>
      rw [ht] at q hP
      cases t with
      | inl A =>
        have := hP.2.2.1
        rw [if_pos (show (0 : Int32) ≤ thK (some (.inl A)) from nI0_le (by omega)), if_neg (show ¬ thK (some (.inl A)) = 6 by show ¬ nI A.1 = 6; rw [l6, eqNN (by omega) (by decide)]; omega)]
        exact ⟨hp, q.ref h⟩
      | inr t =>
        obtain ⟨g1, g2, g3, g4, g5, g6⟩ := hP
        have h2 := g3.1
        simp only at q
        rw [if_pos (show (0 : Int32) ≤ thK (some (.inr t)) from nI0_le (by omega))]
        refine ⟨hp, ?_⟩
        by_cases h6 : t.1 = 2
        · rw [if_pos (show thK (some (.inr t)) = 6 by show nI (4 + t.1) = 6; rw [h6]; rfl)]
          rw [if_neg (by simp [h6])] at q
          rcases wd_cases y with ⟨w, hw, rfl, ew⟩ | ⟨hn, ew⟩
          · rw [ew] at q
            simp only at q
            refine m_isW hw ?_
            rw [if_neg (by decide)]
            refine m_isG hp g5 g3.2.2.2.1 g6 (fun hh => ?_) (fun hh => ?_)
            · rw [if_neg (by decide)]
              rw [if_pos hh] at q
              exact q.ref h
            · rw [if_pos rfl, g5]
              rw [if_neg hh] at q
              have h8 := g3.2.2.2.1
              refine ⟨hp, ?_⟩
              by_cases e8 : t.2.2.2.length = 8
              · rw [if_pos (show nI t.2.2.2.length = 8 by rw [e8]; rfl)]
                rw [if_pos e8] at q
                exact q.ref h
              · rw [if_neg (show ¬ nI t.2.2.2.length = 8 by rw [l8, eqNN (by omega) (by decide)]; exact e8)]
                rw [if_neg e8] at q
                rw [l8, pk_mul, nI_add, vpN (by omega), nI_clamp (by omega)]
                refine ⟨hp, by omega, fun J1 e1 => ⟨hp, hp, fun I1 e2 => ⟨hp, ?_⟩⟩⟩
                have e3 : I1 181 p = nI (t.2.2.2.length + 1) := by rw [e2, sI_s, pk_us, nI_1]
                rw [e3]
                have hI : ∀ j, j ≠ 181 → I1 j = I j := fun j hj => by rw [e2, sI_n _ _ hj]
                have hJ : ∀ j, j ≠ 180 → J1 j = J j := fun j hj => by rw [e1, sJ_at, if_neg hj]
                have hJ6 : ∀ j, J1 180 j = if j = 8 * p + t.2.2.2.length then lN (num w) else J 180 j := fun j => by rw [e1, sJ_at, if_pos rfl, updL_at]
                refine q.don ⟨fun j hj => hI j (by omega), fun j hj => hJ j (by omega)⟩ (h.at hp (fun r hr h20 => ⟨by rw [hI 178 (by decide)], by rw [hI 179 (by decide)], by rw [e2, sI_s, pk_un hr], by rw [hI 182 (by decide)], by rw [hI 183 (by decide)], MEq.of (fun i u v => hI i (by omega)), fun i hi => by rw [hJ6, if_neg (by omega)]⟩) (fun k hk => by rw [hI 177 (by decide)]) (hI 218 (by decide)) ⟨by rw [hJ 177 (by decide)], hJ 215 (by decide), hJ 216 (by decide), hJ 217 (by decide)⟩ ⟨by rw [hI 178 (by decide)]; exact g1, g2.kp g3.2.1.1 (MEq.of (fun i u v => hI i (by omega))), ⟨g3.1, g3.2.1, g3.2.2.1, by simp; omega, (fun hh => by simp only at hh; omega)⟩, by rw [hI 179 (by decide)]; exact g4, by rw [e3]; simp, fun i w' hw' => ?_⟩ (hF.kp ⟨by rw [hI 183 (by decide)], by rw [hI 182 (by decide)]⟩))
                rcases app_get hw' with ⟨u1, u2⟩ | ⟨u1, u2⟩
                · rw [hJ6, if_neg (by omega)]; exact g6 i w' u2
                · rw [hJ6, if_pos (by omega), u2]
          · rw [ew] at q
            exact m_isWB hn (by rw [if_pos rfl]; exact q.ref h)
        · rw [if_neg (show ¬ thK (some (.inr t)) = 6 by show ¬ nI (4 + t.1) = 6; rw [l6, eqNN (by omega) (by decide)]; omega)]
          rw [if_pos h6] at q
          exact q.ref h
  · rw [e] at q
    rw [m_isPlaceB hb, if_pos rfl]
    exact q.ref h
/-! known words -/
def setK (σ : SG) (ks : List (Int64 × Nat)) : SG := (σ.1, σ.2.1, σ.2.2.1, σ.2.2.2.1, ks)
theorem AbsS.known {I I' : MI} {J J' : MJ} {σ : SG} {ks : List (Int64 × Nat)} (h : AbsS I J σ) (e : ∀ i, (i < 52 ∨ 56 < i) → I' i = I i) (ej : ∀ i, (i < 52 ∨ 56 < i) → J' i = J i) (hk : KnS I' J' ks) : AbsS I' J' (setK σ ks) := by
  obtain ⟨h1, h2, h3, h4, h5⟩ := h
  refine ⟨fun p hp => ⟨(h1 p hp).1.kp ?_ (fun i a b => e i (by omega)) (ej _ (by omega)), (h1 p hp).2.kp ?_⟩, by rw [e 0 (by omega)]; exact h2, h3.kp (fun i a b => e i (by omega)) (fun i a b => ej i (by omega)), hk, h5.kp ⟨by rw [e 2 (by omega)], e 4 (by omega), e 5 (by omega)⟩⟩
  · rw [e _ (by omega)]; exact ⟨rfl, rfl, rfl⟩
  · rw [e _ (by omega)]; exact ⟨rfl, rfl⟩
theorem AbsM.known {I I' : MI} {J J' : MJ} {σ : SG} {ks : List (Int64 × Nat)} (h : AbsM I J σ) (e7 : ∀ k, k ≠ 59 → I' 177 k = I 177 k) (e : ∀ i, i ≠ 177 → i ≠ 218 → I' i = I i) (ej : ∀ i, i ≠ 217 → J' i = J i) (hk : KnM I' J' ks) : AbsM I' J' (setK σ ks) := by
  obtain ⟨h1, h2, h3, h4⟩ := h
  refine ⟨fun q hq => ?_, by rw [e7 13 (by decide)]; exact h2, ?_, hk⟩
  · exact ⟨(h1 q hq).1.kp ⟨by rw [e 178 (by decide) (by decide)], by rw [e 179 (by decide) (by decide)], by rw [e 181 (by decide) (by decide)]⟩ (MEq.of (fun i u v => e i (by omega) (by omega))) (fun i _ => by rw [ej 180 (by decide)]), (h1 q hq).2.kp ⟨by rw [e 183 (by decide) (by decide)], by rw [e 182 (by decide) (by decide)]⟩⟩
  · revert h3
    show PuM I J σ.2.2.2.1 → PuM I' J' σ.2.2.2.1
    generalize σ.2.2.2.1 = t
    intro h
    match t, h with
    | none, h => show I' 177 49 = 0; rw [e7 49 (by decide)]; exact h
    | some P, h =>
      obtain ⟨g1, g2, g3, g4, g5, g6, g7, g8, g9, g10, g11⟩ := h
      obtain ⟨v1, v2, v3, v4, v5, v6, v7, v8, v9, v10⟩ := id g11
      have me : ∀ q, MEq I I' q := fun q => MEq.of (fun i u v => e i (by omega) (by omega))
      refine ⟨by rw [e7 49 (by decide)]; exact g1, by rw [e7 50 (by decide)]; exact g2, by rw [e7 53 (by decide)]; exact g3, by rw [e7 54 (by decide)]; exact g4, by rw [e7 56 (by decide)]; exact g5, by rw [ej 177 (by decide)]; exact g6, g7.kp v1.1 (me 16), g8.kp (mkG_VA v1 ?_ v5 (fun w hw => (v7 w hw).2) v10) (me 17), by rw [ej 215 (by decide)]; exact g9, by rw [ej 216 (by decide)]; exact g10, g11⟩
      have := (List.getElem?_eq_some_iff.mp v3).1
      omega
theorem S_unknow {I : MI} {J : MJ} {σ : SG} {Q : Int32 → MI → MJ → Prop} (h : AbsS I J σ) (q : KS I J (don (nI σ.2.2.2.2.length) (setK σ [])) Q) : f_School_unknow I J Q := by
  unfold f_School_unknow
  rw [forall_eq, h.2.2.2.1.2.1]
  intro I1 e1
  refine q.don ⟨fun j hj => by rw [e1, sI_n _ _ (by omega)], fun _ _ => rfl⟩ (h.known (fun j hj => by rw [e1, sI_n _ _ (by omega)]) (fun _ _ => rfl) ⟨⟨by simp, (fun q hq => by cases hq), by simp⟩, by rw [e1, sI_s, pk_us]; rfl, fun i q hq => by simp at hq⟩)
theorem M_unknow {I : MI} {J : MJ} {σ : SG} {Q : Int32 → MI → MJ → Prop} (h : AbsM I J σ) (q : KM I J (don (nI σ.2.2.2.2.length) (setK σ [])) Q) : f_Model_unknow I J Q := by
  unfold f_Model_unknow
  rw [forall_eq, h.2.2.2.2.1]
  intro I1 e1
  refine q.don ⟨fun j hj => by rw [e1, sI_n _ _ (by omega)], fun _ _ => rfl⟩ (h.known (fun k hk => by rw [e1, sI_s, pk_un hk]) (fun j h1 h2 => by rw [e1, sI_n _ _ h1]) (fun _ _ => rfl) ⟨⟨by simp, (fun q hq => by cases hq), by simp⟩, by rw [e1, sI_s, pk_us]; rfl, fun i q hq => by simp at hq⟩)
def fitL (f : Int64 × Nat → Bool) : List (Int64 × Nat) → Nat → Int32
  | [], _ => -1
  | q :: l, i => if f q then nI i else fitL f l (i + 1)
theorem fitL_c (f : Int64 × Nat → Bool) (q : Int64 × Nat) (l : List (Int64 × Nat)) (i : Nat) : fitL f (q :: l) i = if f q then nI i else fitL f l (i + 1) := rfl
noncomputable section
def unfit (A : AM) (q : Int64 × Nat) : Bool := decide (((decW q.1).map (ansF A (0, 0))).getD 0 ≠ q.2)
def opFits (x : Int32) (σ : SG) : Int32 := match maC σ x with
  | none => -2
  | some A => fitL (unfit A) σ.2.2.2.2 0
end
theorem unfit_of {A : AM} {w : List Nat} {v : Nat} (hw : wOk w) : unfit A (lN (num w), v) = decide (ansF A (0, 0) w ≠ v) := by
  unfold unfit
  rw [decW_ok hw]
  rfl
theorem anS_8 {A : AM} (hv : VA A) {s : Nat} (hs : s < aN A) : anS A s ≤ 7 := by
  obtain ⟨z, hz⟩ := VA.get hs
  rw [anS_of hz]
  have := (hv.2.2.2.2.2 z (List.mem_of_getElem? hz)).1
  split at this <;> omega
theorem ansF_8 {A : AM} (hv : VA A) {sc : Nat × Nat} (h1 : sc.1 < aN A) (h2 : sc.2 < 4) (w : List Nat) : ansF A sc w ≤ 8 := by
  unfold ansF
  cases hr : run A sc w with
  | none => exact Nat.le_refl _
  | some q => exact Nat.le_succ_of_le (anS_8 hv (run_ok hv w sc q h1 h2 hr).1)
theorem ansF_8' {A : AM} (hv : VA A) (w : List Nat) : ansF A (0, 0) w ≤ 8 := ansF_8 hv hv.n1 (by decide) w
theorem S_fits {x : Int32} {I : MI} {J : MJ} {σ : SG} {Q : Int32 → MI → MJ → Prop} (h : AbsS I J σ) (q : Q (opFits x σ) I J) : f_School_fits x I J Q := by
  unfold f_School_fits
  rw [s_machAt h]
  unfold opFits at q
  rcases maC_cases σ x with ⟨p, A, hp, rfl, ht, e, e0⟩ | ⟨e, e0⟩
  · rw [e] at q
    rw [if_pos e0, nI_clamp (by omega)]
    simp only at q ⊢
    have hP := (h.1 p hp).1
    rw [ht] at hP
    obtain ⟨g1, g2, g3⟩ := hP
    refine ⟨okM_p hp, ?_⟩
    obtain ⟨⟨k1, k2, k5⟩, k3, k4⟩ := h.2.2.2.1
    unfold f_Known_firstUnfit
    refine lp1 (fun n (i : Nat) => f_Known_firstUnfit_L2 (1 + 64 + 7 * p + 1) _ _ n (nI i) I J) (fun i => i ≤ σ.2.2.2.2.length ∧ fitL (unfit A) σ.2.2.2.2 0 = fitL (unfit A) (σ.2.2.2.2.drop i) i) (fun i => σ.2.2.2.2.length - i) ?_ 0 ⟨Nat.zero_le _, rfl⟩
    rintro n i ⟨hi, hf⟩ ih
    unfold f_Known_firstUnfit_L2
    rw [k3]
    by_cases el : i = σ.2.2.2.2.length
    · rw [if_pos (show nI σ.2.2.2.2.length ≤ nI i by rw [el, leNN (by omega) (by omega)]; omega)]
      rw [hf, el, List.drop_length] at q
      exact q
    · rw [if_neg (show ¬ nI σ.2.2.2.2.length ≤ nI i by rw [leNN (by omega) (by omega)]; omega), vpN (by omega), nI_clamp (by omega)]
      refine ⟨by omega, ?_⟩
      have hg : σ.2.2.2.2[i]? = some (σ.2.2.2.2[i]'(by omega)) := List.getElem?_eq_getElem (by omega)
      obtain ⟨m1, m2, w, m3, m4, m5, m6⟩ := k4 i _ hg
      have hd : σ.2.2.2.2.drop i = σ.2.2.2.2[i]'(by omega) :: σ.2.2.2.2.drop (i + 1) := List.drop_eq_getElem_cons (by omega)
      rw [hd] at hf
      have hu : unfit A (σ.2.2.2.2[i]'(by omega)) = decide (ansF A (0, 0) w ≠ (σ.2.2.2.2[i]'(by omega)).2) := by
        rw [← unfit_of (v := (σ.2.2.2.2[i]'(by omega)).2) ⟨m3, m4⟩, ← m5]
      rw [fitL_c, hu] at hf
      rw [m1, m5]
      refine s_ansTo g2 g3 ⟨m3, m4⟩ ⟨by omega, ?_⟩
      rw [m2]
      have a8 := ansF_8' g3 w
      have b8 := (k2 _ (List.mem_of_getElem? hg)).2
      by_cases ea : ansF A (0, 0) w = (σ.2.2.2.2[i]'(by omega)).2
      · rw [if_pos (by rw [ea])]
        rw [if_neg (by simp [ea])] at hf
        intro t et
        rw [et, nI_1]
        exact ih (i + 1) ⟨by omega, hf⟩ (by omega)
      · rw [if_neg (by rw [eqNN (by omega) (by omega)]; exact ea)]
        rw [hf, if_pos (by simp [ea])] at q
        exact q
  · rw [e] at q
    rw [if_neg e0]
    exact q
theorem M_fits {x : Int32} {I : MI} {J : MJ} {σ : SG} {Q : Int32 → MI → MJ → Prop} (h : AbsM I J σ) (q : ∀ I', Sc I I' → Q (opFits x σ) I' J) : f_Model_fits x I J Q := by
  unfold f_Model_fits
  rw [M_isM h]
  unfold opFits at q
  rcases maC_cases σ x with ⟨p, A, hp, rfl, ht, e, e0⟩ | ⟨e, e0⟩
  · rw [e] at q
    rw [if_pos e0, if_neg (by decide)]
    simp only at q
    have hP := (h.1 p hp).1
    rw [ht] at hP
    obtain ⟨g1, g2, g3⟩ := hP
    obtain ⟨⟨k1, k2, k5⟩, k3, k4⟩ := h.2.2.2
    refine lp2 (fun n (i : Nat) (I1 : MI) => f_Model_fits_L13 (nI p) _ _ n (nI i) I1 J) (fun i I1 => i ≤ σ.2.2.2.2.length ∧ Sc I I1 ∧ fitL (unfit A) σ.2.2.2.2 0 = fitL (unfit A) (σ.2.2.2.2.drop i) i) (fun i _ => σ.2.2.2.2.length - i) ?_ 0 I ⟨Nat.zero_le _, Sc.rf, rfl⟩
    rintro n i I1 ⟨hi, hs, hf⟩ ih
    unfold f_Model_fits_L13
    rw [hs.2 59 (by decide) (by decide), k3]
    by_cases el : i = σ.2.2.2.2.length
    · rw [if_pos (show nI σ.2.2.2.2.length ≤ nI i by rw [el, leNN (by omega) (by omega)]; omega)]
      rw [hf, el, List.drop_length] at q
      exact q I1 hs
    · rw [if_neg (show ¬ nI σ.2.2.2.2.length ≤ nI i by rw [leNN (by omega) (by omega)]; omega), vpN (by omega), nI_clamp (by omega)]
      refine ⟨by omega, ?_⟩
      have hg : σ.2.2.2.2[i]? = some (σ.2.2.2.2[i]'(by omega)) := List.getElem?_eq_getElem (by omega)
      obtain ⟨m1, m2⟩ := k4 i _ hg
      obtain ⟨⟨w, m3, m4, m5⟩, b8⟩ := k2 _ (List.mem_of_getElem? hg)
      have hd : σ.2.2.2.2.drop i = σ.2.2.2.2[i]'(by omega) :: σ.2.2.2.2.drop (i + 1) := List.drop_eq_getElem_cons (by omega)
      rw [hd] at hf
      have hu : unfit A (σ.2.2.2.2[i]'(by omega)) = decide (ansF A (0, 0) w ≠ (σ.2.2.2.2[i]'(by omega)).2) := by
        rw [← unfit_of (v := (σ.2.2.2.2[i]'(by omega)).2) ⟨m3, m4⟩, ← m5]
      rw [fitL_c, hu] at hf
      rw [m1, m5]
      refine m_ansBy (by omega) (hs.rep g2) g3 ⟨m3, m4⟩ (fun I2 e2 => ⟨by omega, ?_⟩)
      rw [(hs.tr e2).1 218 (by decide), m2]
      have a8 := ansF_8' g3 w
      by_cases ea : ansF A (0, 0) w = (σ.2.2.2.2[i]'(by omega)).2
      · rw [if_pos (by rw [ea])]
        rw [if_neg (by simp [ea])] at hf
        intro t et
        rw [et, nI_1]
        exact ih (i + 1) I2 ⟨by omega, hs.tr e2, hf⟩ (by omega)
      · rw [if_neg (by rw [eqNN (by omega) (by omega)]; exact ea)]
        rw [hf, if_pos (by simp [ea])] at q
        exact q I2 (hs.tr e2)
  · rw [e] at q
    rw [if_neg e0, if_pos rfl]
    exact q I Sc.rf
