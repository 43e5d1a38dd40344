/-! leads, what -/
def opLeads (x s a : Int32) (σ : SG) : Int32 := match maC σ x with
  | none => -3
  | some A => match idx (aN A) s with
    | none => -3
    | some s => match tX A s a with
      | none => -2
      | some y => enO y.1
def opWhat (x s a : Int32) (σ : SG) : Int32 := match maC σ x with
  | none => -1
  | some A => if A.1 = 3 then match idx (aN A) s with
    | none => -1
    | some s => match tX A s a with
      | none => -1
      | some y => nI y.2
    else -1
theorem isS1 {α : Type} {y : α} : ¬ (if (some y).isSome = true then (1 : Int32) else 0) = 0 := by simp
theorem s_hasTkB {o : Nat} {A : AM} {y x : Int32} {I : MI} {J : MJ} {Q : Int32 → MI → MJ → Prop} (hA : RepC I o A) (hb : y < 0 ∨ nI (aN A) ≤ y) : f_Machine_hasTake o y x I J Q ↔ Q 0 I J := by
  unfold f_Machine_hasTake
  rw [hA.2.1]
  by_cases h1 : y < 0
  · rw [if_pos h1]
  · rcases hb with h2 | h2
    · exact absurd h2 h1
    · rw [if_neg h1, if_pos h2]
theorem S_leads {x s a : Int32} {I : MI} {J : MJ} {σ : SG} {Q : Int32 → MI → MJ → Prop} (h : AbsS I J σ) (q : Q (opLeads x s a σ) I J) : f_School_leads x s a I J Q := by
  unfold f_School_leads
  rw [s_machAt h]
  unfold opLeads at q
  rcases maC_cases σ x with ⟨p, A, hp, rfl, ht, e, e0⟩ | ⟨e, e0⟩
  · rw [e] at q
    rw [if_pos e0, nI_clamp (by omega)]
    simp only at q ⊢
    have hP := (h.1 p hp).1
    rw [ht] at hP
    obtain ⟨g1, g2, g3⟩ := hP
    refine ⟨okM_p hp, ?_⟩
    rcases idx_cases g3.n31 s with ⟨i, hi, rfl, ei⟩ | ⟨hb, ei⟩
    · rw [ei] at q
      simp only at q
      have h14 : i < 14 := by have := g3.2.2.2.2.1; omega
      rw [s_hasStN g2.2.1 g3.n31 hi, if_neg (by decide), s_hasTk g2 g3 hi]
      cases hx : tX A i a with
      | none => rw [hx] at q; exact q
      | some y =>
        rw [hx] at q
        obtain ⟨b, z, r, hb, rfl, hz, hr, hy⟩ := tX_inv hx
        have := ((g2.2.2.2 i z hz).2.2 r hr).2 b y hy
        rw [if_neg isS1, l4, pk_mul, nI_add, nI_clamp (by omega), vpN (by omega), this.1]
        exact ⟨by omega, q⟩
    · rw [ei] at q
      rw [s_hasStB g2.2.1 hb, if_pos rfl]
      exact q
  · rw [e] at q
    rw [if_neg e0]
    exact q
theorem M_leads {x s a : Int32} {I : MI} {J : MJ} {σ : SG} {Q : Int32 → MI → MJ → Prop} (h : AbsM I J σ) (q : Q (opLeads x s a σ) I J) : f_Model_leads x s a I J Q := by
  unfold f_Model_leads
  rw [M_isM h]
  unfold opLeads at q
  rcases maC_cases σ x with ⟨p, A, hp, rfl, ht, e, e0⟩ | ⟨e, e0⟩
  · rw [e] at q
    rw [if_pos e0, if_neg (by decide)]
    simp only at q
    have hP := (h.1 p hp).1
    rw [ht] at hP
    obtain ⟨g1, g2, g3⟩ := hP
    rcases idx_cases g3.n31 s with ⟨i, hi, rfl, ei⟩ | ⟨hb, ei⟩
    · rw [ei] at q
      simp only at q
      have h14 : i < 14 := by have := g3.2.2.2.2.1; omega
      rw [m_isStN (by omega) g2.2.1 g3.n31 hi, if_neg (by decide), m_hasTk (by omega) g2 g3 hi]
      cases hx : tX A i a with
      | none => rw [hx] at q; exact q
      | some y =>
        rw [hx] at q
        obtain ⟨b, z, r, hb, rfl, hz, hr, hy⟩ := tX_inv hx
        have := ((g2.2.2.2 i z hz).2.2 r hr).2 b y hy
        rw [if_neg isS1, spotN, nI_clamp (by omega), vpN (by omega), this.1]
        exact ⟨by omega, q⟩
    · rw [ei] at q
      rw [m_isStB (by omega) g2.2.1 hb, if_pos rfl]
      exact q
  · rw [e] at q
    rw [if_neg e0, if_pos rfl]
    exact q
theorem S_what {x s a : Int32} {I : MI} {J : MJ} {σ : SG} {Q : Int32 → MI → MJ → Prop} (h : AbsS I J σ) (q : Q (opWhat x s a σ) I J) : f_School_what x s a I J Q := by
  unfold f_School_what
  rw [s_machAt h]
  unfold opWhat at q
  rcases maC_cases σ x with ⟨p, A, hp, rfl, ht, e, e0⟩ | ⟨e, e0⟩
  · rw [e] at q
    rw [if_pos e0, nI_clamp (by omega)]
    simp only at q ⊢
    have hP := (h.1 p hp).1
    rw [ht] at hP
    obtain ⟨g1, g2, g3⟩ := hP
    refine ⟨okM_p hp, ?_⟩
    have hk := g3.1
    rw [g2.1]
    by_cases h3 : A.1 = 3
    · rw [if_pos h3] at q
      rw [if_pos (show nI A.1 = 3 by rw [h3]; rfl)]
      rcases idx_cases g3.n31 s with ⟨i, hi, rfl, ei⟩ | ⟨hb, ei⟩
      · rw [ei] at q
        simp only at q
        have h14 : i < 14 := by have := g3.2.2.2.2.1; omega
        rw [s_hasTk g2 g3 hi]
        cases hx : tX A i a with
        | none => rw [hx] at q; exact q
        | some y =>
          rw [hx] at q
          obtain ⟨b, z, r, hb, rfl, hz, hr, hy⟩ := tX_inv hx
          have := ((g2.2.2.2 i z hz).2.2 r hr).2 b y hy
          rw [if_neg isS1, l4, pk_mul, nI_add, nI_clamp (by omega), vpN (by omega), this.2]
          exact ⟨by omega, q⟩
      · rw [ei] at q
        rw [s_hasTkB g2 hb, if_pos rfl]
        exact q
    · rw [if_neg h3] at q
      rw [if_neg (show ¬ nI A.1 = 3 by rw [l3, eqNN (by omega) (by decide)]; exact h3)]
      exact q
  · rw [e] at q
    rw [if_neg e0]
    exact q
theorem M_what {x s a : Int32} {I : MI} {J : MJ} {σ : SG} {Q : Int32 → MI → MJ → Prop} (h : AbsM I J σ) (q : Q (opWhat x s a σ) I J) : f_Model_what x s a I J Q := by
  unfold f_Model_what
  rw [M_isM h]
  unfold opWhat at q
  rcases maC_cases σ x with ⟨p, A, hp, rfl, ht, e, e0⟩ | ⟨e, e0⟩
  · rw [e] at q
    rw [if_pos e0, if_neg (by decide), nI_clamp (by omega), vpN (by omega)]
    refine ⟨hp, ?_⟩
    simp only at q
    have hP := (h.1 p hp).1
    rw [ht] at hP
    obtain ⟨g1, g2, g3⟩ := hP
    have hk := g3.1
    rw [g1]
    by_cases h3 : A.1 = 3
    · rw [if_pos h3] at q
      rw [if_pos (show nI A.1 = 3 by rw [h3]; rfl)]
      rcases idx_cases g3.n31 s with ⟨i, hi, rfl, ei⟩ | ⟨hb, ei⟩
      · rw [ei] at q
        simp only at q
        have h14 : i < 14 := by have := g3.2.2.2.2.1; omega
        rw [m_isStN (by omega) g2.2.1 g3.n31 hi, if_neg (by decide), m_hasTk (by omega) g2 g3 hi]
        cases hx : tX A i a with
        | none => rw [hx] at q; exact q
        | some y =>
          rw [hx] at q
          obtain ⟨b, z, r, hb, rfl, hz, hr, hy⟩ := tX_inv hx
          have := ((g2.2.2.2 i z hz).2.2 r hr).2 b y hy
          rw [if_neg isS1, spotN, nI_clamp (by omega), vpN (by omega), this.2 h3]
          exact ⟨by omega, q⟩
      · rw [ei] at q
        rw [m_isStB (by omega) g2.2.1 hb, if_pos rfl]
        exact q
    · rw [if_neg h3] at q
      rw [if_neg (show ¬ nI A.1 = 3 by rw [l3, eqNN (by omega) (by decide)]; exact h3)]
      exact q
  · rw [e] at q
    rw [if_neg e0, if_pos rfl]
    exact q
