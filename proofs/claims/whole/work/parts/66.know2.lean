noncomputable section
def opKnow (x : Int32) (y : Int64) (σ : SG) : Int32 × SG := match plc x with
  | none => ref 2 σ
  | some p => match σ.1 p with
    | none => ref 1 σ
    | some (.inl _) => ref 4 σ
    | some (.inr t) => match decW y with
      | none => ref 2 σ
      | some w => if 7 < ansT (.inr t) y w then ref 1 σ else if y ∈ σ.2.2.2.2.map (fun q => q.1) then ref 6 σ else if σ.2.2.2.2.length = 12 then ref 5 σ else don (nI (ansT (.inr t) y w)) (setK σ (σ.2.2.2.2 ++ [(y, ansT (.inr t) y w)]))
end
theorem s_holds {ks : List (Int64 × Nat)} {x : Int64} {I : MI} {J : MJ} {Q : Int32 → MI → MJ → Prop} (h : KnS I J ks) (q1 : x ∈ ks.map (fun q => q.1) → Q 1 I J) (q0 : x ∉ ks.map (fun q => q.1) → Q 0 I J) : f_Known_holds x I J Q := by
  obtain ⟨⟨h12, k2⟩, h1, h2⟩ := h
  unfold f_Known_holds
  refine lp1 (fun n (i : Nat) => f_Known_holds_L2 x _ _ n (nI i) I J) (fun i => i ≤ ks.length ∧ ∀ j, j < i → (ks.map (fun q => q.1))[j]? ≠ some x) (fun i => ks.length - i) ?_ 0 ⟨Nat.zero_le _, fun j hj => absurd hj (Nat.not_lt_zero _)⟩
  rintro n i ⟨hi, hn⟩ ih
  unfold f_Known_holds_L2
  rw [h1]
  by_cases e : i = ks.length
  · rw [if_pos (show nI ks.length ≤ nI i by rw [e, leNN (by omega) (by omega)]; omega)]
    refine q0 (fun hh => ?_)
    obtain ⟨j, hj⟩ := List.mem_iff_getElem?.mp hh
    exact hn j (by have := (List.getElem?_eq_some_iff.mp hj).1; simp at this; omega) hj
  · rw [if_neg (show ¬ nI ks.length ≤ nI i by rw [leNN (by omega) (by omega)]; omega), vpN (by omega), nI_clamp (by omega)]
    refine ⟨by omega, ?_⟩
    have hg : ks[i]? = some (ks[i]'(by omega)) := List.getElem?_eq_getElem (by omega)
    rw [(h2 i _ hg).1]
    by_cases ex : (ks[i]'(by omega)).1 = x
    · rw [if_pos ex]
      exact q1 (List.mem_iff_getElem?.mpr ⟨i, by rw [List.getElem?_map, hg, ← ex]; rfl⟩)
    · rw [if_neg ex]
      intro t et
      rw [et, nI_1]
      refine ih (i + 1) ⟨by omega, fun j hj => ?_⟩ (by omega)
      by_cases hji : j = i
      · rw [hji, List.getElem?_map, hg]; intro hh; simp at hh; exact ex hh
      · exact hn j (by omega)
theorem m_isKn {ks : List (Int64 × Nat)} {x : Int64} {I : MI} {J : MJ} {Q : Int32 → MI → MJ → Prop} (h : KnM I J ks) (q1 : x ∈ ks.map (fun q => q.1) → Q 1 I J) (q0 : x ∉ ks.map (fun q => q.1) → Q 0 I J) : f_Model_isKnown x I J Q := by
  obtain ⟨⟨h12, k2⟩, h1, h2⟩ := h
  unfold f_Model_isKnown
  refine lp2 (fun n (b : Bool) (i : Nat) => f_Model_isKnown_L5 x _ n (if b then 1 else 0) (nI i) I J) (fun b i => i ≤ ks.length ∧ (b = true ↔ ∃ j, j < i ∧ (ks.map (fun q => q.1))[j]? = some x)) (fun _ i => ks.length - i) ?_ false 0 ⟨Nat.zero_le _, by simp⟩
  rintro n b i ⟨hi, hn⟩ ih
  unfold f_Model_isKnown_L5
  rw [h1]
  by_cases e : i = ks.length
  · rw [if_pos (show nI ks.length ≤ nI i by rw [e, leNN (by omega) (by omega)]; omega)]
    cases b with
    | true =>
      obtain ⟨j, _, hj⟩ := hn.mp rfl
      exact ⟨Or.inr rfl, q1 (List.mem_iff_getElem?.mpr ⟨j, hj⟩)⟩
    | false =>
      refine ⟨Or.inl rfl, q0 (fun hh => ?_)⟩
      obtain ⟨j, hj⟩ := List.mem_iff_getElem?.mp hh
      have := hn.mpr ⟨j, by have := (List.getElem?_eq_some_iff.mp hj).1; simp at this; omega, hj⟩
      cases this
  · rw [if_neg (show ¬ nI ks.length ≤ nI i by rw [leNN (by omega) (by omega)]; omega)]
    unfold f_Model_isKnown_b30 f_Model_isKnown_b35
    have hg : ks[i]? = some (ks[i]'(by omega)) := List.getElem?_eq_getElem (by omega)
    cases b with
    | true =>
      rw [if_neg (by decide)]
      intro t et
      rw [et, nI_1]
      obtain ⟨j, hj1, hj⟩ := hn.mp rfl
      exact ih true (i + 1) ⟨by omega, by simp only [true_iff]; exact ⟨j, by omega, hj⟩⟩ (by omega)
    | false =>
      rw [if_pos (by decide), vpN (by omega), nI_clamp (by omega), (h2 i _ hg).1]
      refine ⟨by omega, ?_⟩
      by_cases ex : (ks[i]'(by omega)).1 = x
      · rw [if_pos ex]
        intro t et
        rw [et, nI_1]
        exact ih true (i + 1) ⟨by omega, by simp only [true_iff]; exact ⟨i, by omega, by rw [List.getElem?_map, hg, ← ex]; rfl⟩⟩ (by omega)
      · rw [if_neg ex]
        intro t et
        rw [et, nI_1]
        refine ih false (i + 1) ⟨by omega, ?_⟩ (by omega)
        simp only [Bool.false_eq_true, false_iff]
        rintro ⟨j, hj1, hj⟩
        by_cases hji : j = i
        · rw [hji, List.getElem?_map, hg] at hj; simp at hj; exact ex hj
        · have := hn.mpr ⟨j, by omega, hj⟩
          cases this
theorem s_isAnN {n : Nat} {I : MI} {J : MJ} {Q : Int32 → MI → MJ → Prop} (h : n < 8) : f_School_isAnswer (nI n) I J Q ↔ Q 1 I J := by
  unfold f_School_isAnswer
  rw [if_neg (nI0_lt (by omega)), if_neg (show ¬ (8 : Int32) ≤ nI n from nI_ge (b := 8) h (by decide))]
theorem s_isAnB {x : Int32} {I : MI} {J : MJ} {Q : Int32 → MI → MJ → Prop} (h : x < 0 ∨ nI 8 ≤ x) : f_School_isAnswer x I J Q ↔ Q 0 I J := by
  unfold f_School_isAnswer
  by_cases h1 : x < 0
  · rw [if_pos h1]
  · rcases h with h | h
    · exact absurd h h1
    · rw [if_neg h1, if_pos (show (8 : Int32) ≤ x from h)]
theorem s_knF {x v : Int32} {y : Int64} {I : MI} {J : MJ} {σ : SG} {Q : Int32 → MI → MJ → Prop} (h : AbsS I J σ) (hv : ¬ v = 0) (q : KS I J (ref v σ) Q) : f_School_know_b27 x y v Q I J ∧ f_School_know_b42 x y v Q I J ∧ f_School_know_b66 x y v Q I J ∧ f_School_know_b86 x y v Q I J ∧ f_School_know_b106 x y v Q I J := by
  unfold f_School_know_b27 f_School_know_b42 f_School_know_b66 f_School_know_b86 f_School_know_b106
  rw [if_neg hv, if_neg hv, if_neg hv, if_neg hv, if_neg hv]
  exact ⟨q.ref h, q.ref h, q.ref h, q.ref h, q.ref h⟩
theorem ansT_9 {t : TE} (hv : VT t) (x : Int64) (w : List Nat) : ansT (.inr t) x w ≤ 9 := by
  unfold ansT
  simp only
  split
  · exact Nat.le_refl _
  · exact Nat.le_succ_of_le (ansF_8' hv.2.1.1 w)
theorem nd_add {ks : List (Int64 × Nat)} {x : Int64} {v : Nat} (h : (ks.map (fun q => q.1)).Nodup) (hno : x ∉ ks.map (fun q => q.1)) : ((ks ++ [(x, v)]).map (fun q => q.1)).Nodup := by
  rw [List.map_append, List.nodup_append]
  refine ⟨h, by simp, fun a ha b hb => ?_⟩
  simp at hb
  rw [hb]
  intro e
  rw [e] at ha
  exact hno ha
theorem KnS.add {I I' : MI} {J J' : MJ} {ks : List (Int64 × Nat)} {w : List Nat} {v : Nat} (h : KnS I J ks) (hw : wOk w) (hv : v ≤ 7) (h12 : ks.length < 12) (hno : lN (num w) ∉ ks.map (fun q => q.1)) (e0 : I' 52 0 = nI (ks.length + 1)) (e1 : ∀ j, J' 53 j = if j = ks.length then lN (num w) else J 53 j) (e2 : ∀ j, I' 54 j = if j = ks.length then nI v else I 54 j) (e3 : ∀ j, I' 56 j = if j = ks.length then nI w.length else I 56 j) : KnS I' J' (ks ++ [(lN (num w), v)]) := by
  obtain ⟨⟨a1, a2, a5⟩, a3, a4⟩ := h
  refine ⟨⟨by simp; omega, fun q hq => ?_, nd_add a5 hno⟩, by rw [e0]; simp, fun i q hq => ?_⟩
  · rcases List.mem_append.mp hq with h | h
    · exact a2 q h
    · simp at h; subst h; exact ⟨⟨w, hw.1, hw.2, rfl⟩, hv⟩
  · rcases app_get hq with ⟨u1, u2⟩ | ⟨u1, u2⟩
    · rw [e1, e2, e3, if_neg (by omega), if_neg (by omega), if_neg (by omega)]
      exact a4 i q u2
    · rw [e1, e2, e3, if_pos u1, if_pos u1, if_pos u1, u2]
      exact ⟨rfl, rfl, w, hw.1, hw.2, rfl, rfl⟩
theorem KnM.add {I I' : MI} {J J' : MJ} {ks : List (Int64 × Nat)} {w : List Nat} {v : Nat} (h : KnM I J ks) (hw : wOk w) (hv : v ≤ 7) (h12 : ks.length < 12) (hno : lN (num w) ∉ ks.map (fun q => q.1)) (e0 : I' 177 59 = nI (ks.length + 1)) (e1 : ∀ j, J' 217 j = if j = ks.length then lN (num w) else J 217 j) (e2 : ∀ j, I' 218 j = if j = ks.length then nI v else I 218 j) : KnM I' J' (ks ++ [(lN (num w), v)]) := by
  obtain ⟨⟨a1, a2, a5⟩, a3, a4⟩ := h
  refine ⟨⟨by simp; omega, fun q hq => ?_, nd_add a5 hno⟩, by rw [e0]; simp, fun i q hq => ?_⟩
  · rcases List.mem_append.mp hq with h | h
    · exact a2 q h
    · simp at h; subst h; exact ⟨⟨w, hw.1, hw.2, rfl⟩, hv⟩
  · rcases app_get hq with ⟨u1, u2⟩ | ⟨u1, u2⟩
    · rw [e1, e2, if_neg (by omega), if_neg (by omega)]
      exact a4 i q u2
    · rw [e1, e2, if_pos u1, if_pos u1, u2]
      exact ⟨rfl, rfl⟩
theorem S_know {x : Int32} {y : Int64} {I : MI} {J : MJ} {σ : SG} {Q : Int32 → MI → MJ → Prop} (h : AbsS I J σ) (q : KS I J (opKnow x y σ) Q) : f_School_know x y I J Q := by
  unfold f_School_know
  rw [S_thing h]
  unfold opKnow at q
  rcases plc_cases x with ⟨p, hp, rfl, e⟩ | ⟨hb, e⟩
  · rw [e] at q
    simp only at q
    have hP := (h.1 p hp).1
    cases ht : σ.1 p with
    | none =>
      rw [ht] at q
      rw [fT_n hp ht, if_neg (by decide)]
      exact (s_knF h (by decide) q).1
    | some t =>
      rw [ht] at q hP
      rw [fT_s hp ht, if_pos rfl, vpN (by omega), nI_clamp (by omega)]
      refine ⟨hp, ?_⟩
      cases t with
      | inl A =>
        have := hP.2.2.1
        rw [hasM_l hP.1 this, if_neg (by decide)]
        exact (s_knF h (by decide) q).1
      | inr t =>
        have g3 := hP.2.2.1
        have h2 := g3.1
        rw [hasM_r hP.1 (by omega) (by omega), if_pos rfl]
        simp only at q
        unfold f_School_know_b27
        rw [if_pos rfl]
        rcases wd_cases y with ⟨w, hw, rfl, ew⟩ | ⟨hn, ew⟩
        · rw [ew] at q
          simp only at q
          refine s_isW hw ?_
          rw [if_neg (by decide)]
          unfold f_School_know_b42
          rw [if_pos rfl, vpN (by omega), nI_clamp (by omega)]
          refine ⟨hp, s_plAns hP hw ?_⟩
          have h9 := ansT_9 g3 (lN (num w)) w
          by_cases h7 : 7 < ansT (.inr t) (lN (num w)) w
          · rw [s_isAnB (Or.inr (nI_le (by omega) (by omega))), if_pos rfl]
            rw [if_pos h7] at q
            exact (s_knF (x := nI p) (y := lN (num w)) h (by decide) q).2.2.1
          · rw [s_isAnN (by omega), if_neg (by decide)]
            rw [if_neg h7] at q
            unfold f_School_know_b66
            rw [if_pos rfl]
            refine s_holds h.2.2.2.1 (fun hh => ?_) (fun hh => ?_)
            · rw [if_neg (by decide)]
              rw [if_pos hh] at q
              exact (s_knF (x := nI p) (y := lN (num w)) h (by decide) q).2.2.2.1
            · rw [if_pos rfl]
              rw [if_neg hh] at q
              obtain ⟨⟨k1, k2, k5⟩, k3, k4⟩ := id h.2.2.2.1
              unfold f_School_know_b86
              rw [if_pos rfl, k3]
              by_cases e12 : σ.2.2.2.2.length = 12
              · rw [if_neg (show ¬ nI σ.2.2.2.2.length < 12 by rw [e12]; decide)]
                rw [if_pos e12] at q
                exact (s_knF (x := nI p) (y := lN (num w)) h (by decide) q).2.2.2.2
              · rw [if_pos (show nI σ.2.2.2.2.length < 12 by rw [l12, ltNN (by omega) (by decide)]; omega)]
                rw [if_neg e12] at q
                unfold f_School_know_b106
                rw [if_pos rfl, vpN (by omega), nI_clamp (by omega)]
                refine ⟨hp, s_plAns hP hw ?_⟩
                unfold f_Known_keep
                rw [k3, if_neg (show ¬ (12 : Int32) ≤ nI σ.2.2.2.2.length by rw [l12, leNN (by decide) (by omega)]; omega), vpN (by omega), nI_clamp (by omega)]
                refine ⟨by omega, fun J1 e1 => ⟨by omega, fun I1 e2 => s_len hw ?_⟩⟩
                have e3 : I1 52 0 = nI σ.2.2.2.2.length := by rw [e2, sI_n _ _ (by decide)]; exact k3
                rw [e3, vpN (by omega), nI_clamp (by omega)]
                refine ⟨by omega, fun I2 e4 I3 e5 => ?_⟩
                have e6 : I2 52 0 = nI σ.2.2.2.2.length := by rw [e4, sI_n _ _ (by decide)]; exact e3
                rw [e6, nI_1] at e5
                refine q.don ⟨fun j hj => by rw [e5, sI_n _ _ (by omega), e4, sI_n _ _ (by omega), e2, sI_n _ _ (by omega)], fun j hj => by rw [e1, sJ_at, if_neg (by omega)]⟩ (h.known (fun j hj => by rw [e5, sI_n _ _ (by omega), e4, sI_n _ _ (by omega), e2, sI_n _ _ (by omega)]) (fun j hj => by rw [e1, sJ_at, if_neg (by omega)]) (h.2.2.2.1.add hw (by omega) (by omega) hh (by rw [e5, sI_s, pk_us]) (fun j => by rw [e1, sJ_at, if_pos rfl, updL_at]) (fun j => by rw [e5, sI_n _ _ (by decide), e4, sI_n _ _ (by decide), e2, sI_s, upd_at]) (fun j => by rw [e5, sI_n _ _ (by decide), e4, sI_s, upd_at, e2, sI_n _ _ (by decide)])))
        · rw [ew] at q
          exact s_isWB hn (by rw [if_pos rfl]; exact (s_knF (x := nI p) (y := y) h (by decide) q).2.1)
  · rw [e] at q
    rw [fT_b hb, if_neg (by decide)]
    exact (s_knF h (by decide) q).1
theorem M_know {x : Int32} {y : Int64} {I : MI} {J : MJ} {σ : SG} {Q : Int32 → MI → MJ → Prop} (h : AbsM I J σ) (q : KM I J (opKnow x y σ) Q) : f_Model_know x y I J Q := by
  unfold f_Model_know f_Model_know_b38
  unfold opKnow at q
  rcases plc_cases x with ⟨p, hp, rfl, e⟩ | ⟨hb, e⟩
  · rw [e] at q
    rw [m_isPlaceN hp, if_neg (by decide), nI_clamp (by omega), vpN (by omega), (h.1 p hp).1.lie]
    refine ⟨hp, ?_⟩
    simp only at q
    have hP := (h.1 p hp).1
    cases ht : σ.1 p with
    | none =>
      rw [ht] at q
      rw [if_neg (by decide), if_neg (by decide)]
      exact ⟨hp, q.ref h⟩
    | some t =>
      rw [ht] at q hP
      cases t with
      | inl A =>
        have := hP.2.2.1
        rw [if_neg (show ¬ (4 : Int32) ≤ thK (some (.inl A)) by show ¬ (4 : Int32) ≤ nI A.1; rw [l4, leNN (by decide) (by omega)]; omega), if_pos (show (0 : Int32) ≤ thK (some (.inl A)) from nI0_le (by omega))]
        exact ⟨hp, q.ref h⟩
      | inr t =>
        have g3 := hP.2.2.1
        have h2 := g3.1
        simp only at q
        rw [if_pos (show (4 : Int32) ≤ thK (some (.inr t)) by show (4 : Int32) ≤ nI (4 + t.1); rw [l4, leNN (by decide) (by omega)]; omega)]
        rcases wd_cases y with ⟨w, hw, rfl, ew⟩ | ⟨hn, ew⟩
        · rw [ew] at q
          simp only at q
          refine m_isW hw ?_
          rw [if_neg (by decide)]
          refine M_answer h (fun I1 s1 => ?_)
          have eo : opAnswer (nI p) (lN (num w)) σ = nI (ansT (.inr t) (lN (num w)) w) := by
            unfold opAnswer
            rw [e]
            simp only [ht, ew]
          have h9 := ansT_9 g3 (lN (num w)) w
          have h1 := h.sc s1
          have f1 : FrM I I1 J J := FrM.sc s1
          have q' : ∀ v, KM I J (ref v σ) Q → f_Model_refuse v I1 J (fun r I' J' => Q r I' J') := fun v k => by
            rw [m_refuse]
            exact k _ _ (f1.tr (FrM.fn v)) (h1.fn v)
          rw [eo]
          by_cases h7 : 7 < ansT (.inr t) (lN (num w)) w
          · rw [if_neg (show ¬ nI (ansT (.inr t) (lN (num w)) w) ≤ 7 by rw [l7, leNN (by omega) (by decide)]; omega)]
            rw [if_pos h7] at q
            exact q' _ q
          · rw [if_pos (show nI (ansT (.inr t) (lN (num w)) w) ≤ 7 by rw [l7, leNN (by omega) (by decide)]; omega)]
            rw [if_neg h7] at q
            refine m_isKn h1.2.2.2 (fun hh => ?_) (fun hh => ?_)
            · rw [if_neg (by decide)]
              rw [if_pos hh] at q
              exact q' _ q
            · rw [if_pos rfl]
              rw [if_neg hh] at q
              obtain ⟨⟨k1, k2, k5⟩, k3, k4⟩ := id h1.2.2.2
              rw [k3]
              by_cases e12 : σ.2.2.2.2.length = 12
              · rw [if_pos (show nI σ.2.2.2.2.length = 12 by rw [e12]; rfl)]
                rw [if_pos e12] at q
                exact q' _ q
              · rw [if_neg (show ¬ nI σ.2.2.2.2.length = 12 by rw [l12, eqNN (by omega) (by decide)]; exact e12), vpN (by omega), nI_clamp (by omega)]
                rw [if_neg e12] at q
                refine ⟨by omega, fun J2 e2 => ⟨by omega, fun I2 e3 I3 e4 => ?_⟩⟩
                have e5 : I2 177 59 = nI σ.2.2.2.2.length := by rw [e3, sI_n _ _ (by decide)]; exact k3
                rw [e5, nI_1] at e4
                refine q.don (f1.tr ⟨fun j hj => by rw [e4, sI_n _ _ (by omega), e3, sI_n _ _ (by omega)], fun j hj => by rw [e2, sJ_at, if_neg (by omega)]⟩) (h1.known (fun k hk => by rw [e4, sI_s, pk_un hk, e3, sI_n _ _ (by decide)]) (fun j u v => by rw [e4, sI_n _ _ u, e3, sI_n _ _ v]) (fun j hj => by rw [e2, sJ_at, if_neg hj]) (h1.2.2.2.add hw (by omega) (by omega) hh (by rw [e4, sI_s, pk_us]) (fun j => by rw [e2, sJ_at, if_pos rfl, updL_at]) (fun j => by rw [e4, sI_n _ _ (by decide), e3, sI_s, upd_at])))
        · rw [ew] at q
          exact m_isWB hn (by rw [if_pos rfl]; exact q.ref h)
  · rw [e] at q
    rw [m_isPlaceB hb, if_pos rfl]
    exact q.ref h
