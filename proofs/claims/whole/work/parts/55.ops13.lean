theorem S_take {x s a t : Int32} {I : MI} {J : MJ} {σ : SG} {Q : Int32 → MI → MJ → Prop} (h : AbsS I J σ) (q : KS I J (opTake x s a t σ) Q) : f_School_take x s a t I J Q := by
  unfold f_School_take
  rw [S_machF h]
  rcases maC_cases σ x with ⟨p, A, hp, rfl, ht, e, e0⟩ | ⟨e, e0⟩
  · have hP := (h.1 p hp).1
    rw [ht] at hP
    obtain ⟨g1, g2, g3⟩ := hP
    rw [e0, if_pos rfl, vpN (by omega), nI_clamp (by omega), s_takeF g2 g3]
    refine ⟨hp, ?_⟩
    unfold f_School_take_b28 f_School_take_b56 f_School_take_b59
    rcases fTk_cases g3 s a with ⟨i, b, z, r, y, hi, rfl, hb, rfl, hz, hr, hy, h0⟩ | h0
    · have h14 : i < 14 := (g3.row4 hz).1
      have hx : tX A i (nI b) = some y := by rw [tX_row hz hr hb, hy]
      have hn := g3.n31
      obtain ⟨y1, y2, y3⟩ := ((g3.2.2.2.2.2 z (List.mem_of_getElem? hz)).2.2 r hr).2 y (List.mem_of_getElem? hy)
      rw [h0, if_pos rfl, if_pos rfl, if_neg (show ¬ (2 : Int32) = 0 by decide)]
      have bad : (t < -1 ∨ nI (aN A) ≤ t) → f_School_take_b88 (nI p) (nI i) (nI b) t 2 Q I J := fun hb => by
        unfold opTake at q
        rw [e] at q
        simp only at q
        rw [if_neg (by simp [h0]), if_pos hb] at q
        unfold f_School_take_b88
        rw [if_neg (by decide)]
        exact q.ref h
      rcases i32_cases t with h1 | h1 | ⟨n, hn31, h1⟩
      · rw [if_pos h1]
        exact bad (Or.inl h1)
      · subst h1
        rw [if_neg (by decide), nI_clamp (by omega), vpN (by omega), g2.2.1, if_pos (m1_lt (by omega)), if_pos rfl, s_firm g2.1 g3.1]
        refine ⟨hp, hp, ?_⟩
        have nb : ¬ ((-1 : Int32) < -1 ∨ nI (aN A) ≤ -1) := by
          rintro (u | u)
          · exact absurd u (by decide)
          · exact nle_m1 hn u
        by_cases h2 : A.1 < 2
        · rw [if_pos h2, if_neg (by decide)]
          unfold opTake at q
          rw [e] at q
          simp only at q
          rw [if_neg (by simp [h0]), if_neg nb, if_pos (by simp [h2])] at q
          unfold f_School_take_b88
          rw [if_neg (by decide)]
          exact q.ref h
        · rw [if_neg h2, if_pos rfl]
          rw [opTake_ok e rfl h14 rfl hb hx h0 nb (fun hh => h2 hh.2), if_pos rfl] at q
          unfold f_School_take_b88
          rw [if_pos rfl]
          exact S_takeEnd (y' := (none, y.2)) h hp ht hz hr hy hb (fun t ht => by cases ht) (fun hk => absurd hk h2) y2 y3 (Or.inl ⟨rfl, rfl, rfl⟩) q
      · subst h1
        rw [if_neg (nlt_m1 hn31), nI_clamp (by omega), vpN (by omega), g2.2.1, if_neg (lm1 hn31)]
        refine ⟨hp, ?_⟩
        by_cases h2 : n < aN A
        · rw [if_pos (show nI n < nI (aN A) by rw [ltNN hn31 hn]; exact h2)]
          rw [opTake_ok e rfl h14 rfl hb hx h0 (fun hh => by
            rcases hh with u | u
            · exact nlt_m1 hn31 u
            · exact nI_ge h2 hn u) (fun hh => lm1 hn31 hh.1), if_neg (lm1 hn31), nI_clamp hn31] at q
          unfold f_School_take_b88
          rw [if_pos rfl]
          exact S_takeEnd (y' := (some n, y.2)) h hp ht hz hr hy hb (fun t ht => by cases ht; exact h2) (fun _ hh => by cases hh) y2 y3 (Or.inl ⟨rfl, rfl, rfl⟩) q
        · rw [if_neg (show ¬ nI n < nI (aN A) by rw [ltNN hn31 hn]; exact h2)]
          exact bad (Or.inr (nI_le (by omega) hn31))
    · rw [if_neg h0, if_neg h0]
      unfold opTake at q
      rw [e] at q
      simp only at q
      rw [if_pos h0] at q
      unfold f_School_take_b88
      rw [if_neg h0]
      exact q.ref h
  · unfold opTake at q
    rw [e] at q
    rw [if_neg e0]
    unfold f_School_take_b28 f_School_take_b59 f_School_take_b88
    rw [if_neg e0, if_neg e0, if_neg e0]
    exact q.ref h
theorem M_take {x s a t : Int32} {I : MI} {J : MJ} {σ : SG} {Q : Int32 → MI → MJ → Prop} (h : AbsM I J σ) (q : KM I J (opTake x s a t σ) Q) : f_Model_take x s a t I J Q := by
  unfold f_Model_take f_Model_take_b56
  rw [M_noM h]
  rcases maC_cases σ x with ⟨p, A, hp, rfl, ht, e, e0⟩ | ⟨e, e0⟩
  · have hP := (h.1 p hp).1
    rw [ht] at hP
    obtain ⟨g1, g2, g3⟩ := hP
    rw [e0, if_pos rfl, m_noTk (by omega) g2 g3]
    rcases fTk_cases g3 s a with ⟨i, b, z, r, y, hi, rfl, hb, rfl, hz, hr, hy, h0⟩ | h0
    · have h14 : i < 14 := (g3.row4 hz).1
      have hx : tX A i (nI b) = some y := by rw [tX_row hz hr hb, hy]
      have hn := g3.n31
      have hk := g3.1
      obtain ⟨y1, y2, y3⟩ := ((g3.2.2.2.2.2 z (List.mem_of_getElem? hz)).2.2 r hr).2 y (List.mem_of_getElem? hy)
      rw [h0, if_pos rfl]
      have bad : (t < -1 ∨ nI (aN A) ≤ t) → f_Model_refuse (2 : Int32) I J (fun r58 I58 J58 => Q r58 I58 J58) := fun hb => by
        unfold opTake at q
        rw [e] at q
        simp only at q
        rw [if_neg (by simp [h0]), if_pos hb] at q
        exact q.ref h
      rcases i32_cases t with h1 | h1 | ⟨n, hn31, h1⟩
      · rw [if_pos h1]
        exact bad (Or.inl h1)
      · subst h1
        rw [if_neg (by decide), nI_clamp (by omega), vpN (by omega), g2.2.1, if_pos (m1_lt (by omega)), if_pos rfl, vpN (by omega), g1]
        refine ⟨by omega, hp, ?_⟩
        have nb : ¬ ((-1 : Int32) < -1 ∨ nI (aN A) ≤ -1) := by
          rintro (u | u)
          · exact absurd u (by decide)
          · exact nle_m1 hn u
        by_cases h2 : A.1 < 2
        · rw [if_neg (show ¬ (2 : Int32) ≤ nI A.1 by rw [l2, leNN (by decide) (by omega)]; omega)]
          unfold opTake at q
          rw [e] at q
          simp only at q
          rw [if_neg (by simp [h0]), if_neg nb, if_pos (by simp [h2])] at q
          exact q.ref h
        · rw [if_pos (show (2 : Int32) ≤ nI A.1 by rw [l2, leNN (by decide) (by omega)]; omega)]
          rw [opTake_ok e rfl h14 rfl hb hx h0 nb (fun hh => h2 hh.2), if_pos rfl] at q
          unfold f_Model_take_b84
          exact M_takeEnd (y' := (none, y.2)) h hp ht hz hr hy hb (fun t ht => by cases ht) (fun hk => absurd hk h2) y2 y3 (Or.inl ⟨rfl, rfl, rfl⟩) q
      · subst h1
        rw [if_neg (nlt_m1 hn31), nI_clamp (by omega), vpN (by omega), g2.2.1, if_neg (lm1 hn31)]
        refine ⟨by omega, ?_⟩
        by_cases h2 : n < aN A
        · rw [if_pos (show nI n < nI (aN A) by rw [ltNN hn31 hn]; exact h2)]
          rw [opTake_ok e rfl h14 rfl hb hx h0 (fun hh => by
            rcases hh with u | u
            · exact nlt_m1 hn31 u
            · exact nI_ge h2 hn u) (fun hh => lm1 hn31 hh.1), if_neg (lm1 hn31), nI_clamp hn31] at q
          unfold f_Model_take_b84
          exact M_takeEnd (y' := (some n, y.2)) h hp ht hz hr hy hb (fun t ht => by cases ht; exact h2) (fun _ hh => by cases hh) y2 y3 (Or.inl ⟨rfl, rfl, rfl⟩) q
        · rw [if_neg (show ¬ nI n < nI (aN A) by rw [ltNN hn31 hn]; exact h2)]
          exact bad (Or.inr (nI_le (by omega) hn31))
    · rw [if_neg h0]
      unfold opTake at q
      rw [e] at q
      simp only at q
      rw [if_pos h0] at q
      exact q.ref h
  · unfold opTake at q
    rw [e] at q
    rw [if_neg e0, M_noM h]
    exact q.ref h
theorem S_act {x s a t : Int32} {I : MI} {J : MJ} {σ : SG} {Q : Int32 → MI → MJ → Prop} (h : AbsS I J σ) (q : KS I J (opAct x s a t σ) Q) : f_School_act x s a t I J Q := by
  unfold f_School_act
  rw [S_machF h]
  rcases maC_cases σ x with ⟨p, A, hp, rfl, ht, e, e0⟩ | ⟨e, e0⟩
  · have hP := (h.1 p hp).1
    rw [ht] at hP
    obtain ⟨g1, g2, g3⟩ := hP
    have hk := g3.1
    rw [e0, if_pos rfl, vpN (by omega), nI_clamp (by omega), g2.1]
    refine ⟨hp, ?_⟩
    by_cases h3 : A.1 = 3
    · rw [if_pos (show nI A.1 = 3 by rw [h3]; rfl)]
      unfold f_School_act_b31
      rw [if_pos rfl, vpN (by omega), nI_clamp (by omega), s_takeF g2 g3]
      refine ⟨hp, ?_⟩
      unfold f_School_act_b52 f_School_act_b68
      rcases fTk_cases g3 s a with ⟨i, b, z, r, y, hi, rfl, hb, rfl, hz, hr, hy, h0⟩ | h0
      · have h14 : i < 14 := (g3.row4 hz).1
        have hx : tX A i (nI b) = some y := by rw [tX_row hz hr hb, hy]
        obtain ⟨y1, y2, y3⟩ := ((g3.2.2.2.2.2 z (List.mem_of_getElem? hz)).2.2 r hr).2 y (List.mem_of_getElem? hy)
        rw [h0, if_pos rfl]
        have bad : (t < 0 ∨ 3 < t) → f_School_act_b71 (nI p) (nI i) (nI b) t 2 Q I J := fun hb => by
          unfold opAct at q
          rw [e] at q
          simp only at q
          rw [if_neg (by simp [h3]), if_neg (by simp [h0]), if_pos hb] at q
          unfold f_School_act_b71
          rw [if_neg (by decide)]
          exact q.ref h
        by_cases h1 : t < 0
        · rw [if_pos h1]
          exact bad (Or.inl h1)
        · obtain ⟨n, hn31, rfl⟩ := nI_of h1
          rw [if_neg h1]
          by_cases h2 : n ≤ 3
          · rw [if_pos (show nI n ≤ 3 by rw [l3, leNN hn31 (by decide)]; exact h2)]
            rw [opAct_ok e rfl h14 rfl hb hx h3 h0 (fun hh => by
              rcases hh with u | u
              · exact h1 u
              · rw [l3, ltNN (by decide) hn31] at u; omega), nI_clamp hn31] at q
            unfold f_School_act_b71
            rw [if_pos rfl]
            exact S_takeEnd (y' := (y.1, n)) h hp ht hz hr hy hb y1 (fun hh => by omega) h2 (fun hh => absurd h3 hh) (Or.inr ⟨rfl, rfl, rfl⟩) q
          · rw [if_neg (show ¬ nI n ≤ 3 by rw [l3, leNN hn31 (by decide)]; exact h2)]
            exact bad (Or.inr (by rw [l3, ltNN (by decide) hn31]; omega))
      · rw [if_neg h0]
        unfold opAct at q
        rw [e] at q
        simp only at q
        rw [if_neg (by simp [h3]), if_pos h0] at q
        unfold f_School_act_b71
        rw [if_neg h0]
        exact q.ref h
    · rw [if_neg (show ¬ nI A.1 = 3 by rw [l3, eqNN (by omega) (by decide)]; exact h3)]
      unfold opAct at q
      rw [e] at q
      simp only at q
      rw [if_pos h3] at q
      unfold f_School_act_b31 f_School_act_b52 f_School_act_b71
      rw [if_neg (by decide), if_neg (by decide), if_neg (by decide)]
      exact q.ref h
  · unfold opAct at q
    rw [e] at q
    rw [if_neg e0]
    unfold f_School_act_b31 f_School_act_b52 f_School_act_b71
    rw [if_neg e0, if_neg e0, if_neg e0]
    exact q.ref h
theorem M_act {x s a t : Int32} {I : MI} {J : MJ} {σ : SG} {Q : Int32 → MI → MJ → Prop} (h : AbsM I J σ) (q : KM I J (opAct x s a t σ) Q) : f_Model_act x s a t I J Q := by
  unfold f_Model_act f_Model_act_b66
  rw [M_noM h]
  rcases maC_cases σ x with ⟨p, A, hp, rfl, ht, e, e0⟩ | ⟨e, e0⟩
  · have hP := (h.1 p hp).1
    rw [ht] at hP
    obtain ⟨g1, g2, g3⟩ := hP
    have hk := g3.1
    rw [e0, if_pos rfl, vpN (by omega), nI_clamp (by omega), g1]
    refine ⟨hp, ?_⟩
    by_cases h3 : A.1 = 3
    · rw [if_pos (show nI A.1 = 3 by rw [h3]; rfl), m_noTk (by omega) g2 g3]
      rcases fTk_cases g3 s a with ⟨i, b, z, r, y, hi, rfl, hb, rfl, hz, hr, hy, h0⟩ | h0
      · have h14 : i < 14 := (g3.row4 hz).1
        have hx : tX A i (nI b) = some y := by rw [tX_row hz hr hb, hy]
        obtain ⟨y1, y2, y3⟩ := ((g3.2.2.2.2.2 z (List.mem_of_getElem? hz)).2.2 r hr).2 y (List.mem_of_getElem? hy)
        rw [h0, if_pos rfl]
        have bad : (t < 0 ∨ 3 < t) → f_Model_refuse (2 : Int32) I J (fun r58 I58 J58 => Q r58 I58 J58) := fun hb => by
          unfold opAct at q
          rw [e] at q
          simp only at q
          rw [if_neg (by simp [h3]), if_neg (by simp [h0]), if_pos hb] at q
          exact q.ref h
        by_cases h1 : t < 0
        · rw [if_pos h1]
          exact bad (Or.inl h1)
        · obtain ⟨n, hn31, rfl⟩ := nI_of h1
          rw [if_neg h1]
          by_cases h2 : n ≤ 3
          · rw [if_pos (show nI n ≤ 3 by rw [l3, leNN hn31 (by decide)]; exact h2)]
            rw [opAct_ok e rfl h14 rfl hb hx h3 h0 (fun hh => by
              rcases hh with u | u
              · exact h1 u
              · rw [l3, ltNN (by decide) hn31] at u; omega), nI_clamp hn31] at q
            exact M_takeEnd (y' := (y.1, n)) h hp ht hz hr hy hb y1 (fun hh => by omega) h2 (fun hh => absurd h3 hh) (Or.inr ⟨rfl, rfl, rfl⟩) q
          · rw [if_neg (show ¬ nI n ≤ 3 by rw [l3, leNN hn31 (by decide)]; exact h2)]
            exact bad (Or.inr (by rw [l3, ltNN (by decide) hn31]; omega))
      · rw [if_neg h0]
        unfold opAct at q
        rw [e] at q
        simp only at q
        rw [if_neg (by simp [h3]), if_pos h0] at q
        exact q.ref h
    · rw [if_neg (show ¬ nI A.1 = 3 by rw [l3, eqNN (by omega) (by decide)]; exact h3)]
      unfold opAct at q
      rw [e] at q
      simp only at q
      rw [if_pos h3] at q
      exact q.ref h
  · unfold opAct at q
    rw [e] at q
    rw [if_neg e0, M_noM h]
    exact q.ref h
