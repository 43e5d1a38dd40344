/-! states and takes of a machine -/
def idx (N : Nat) (x : Int32) : Option Nat := if x < 0 ∨ nI N ≤ x then none else some x.toNatClampNeg
theorem idx_cases {N : Nat} (hN : N < 2 ^ 31) (x : Int32) : (∃ p, p < N ∧ x = nI p ∧ idx N x = some p) ∨ ((x < 0 ∨ nI N ≤ x) ∧ idx N x = none) := by
  rcases in_cases x N hN with ⟨p, hp, rfl⟩ | h
  · refine Or.inl ⟨p, hp, rfl, ?_⟩
    unfold idx
    rw [if_neg, nI_clamp (by omega)]
    rintro (h | h)
    · exact nI_pos (by omega) h
    · exact nI_ge hp hN h
  · exact Or.inr ⟨h, by unfold idx; rw [if_pos h]⟩
def tX (A : AM) (s : Nat) (x : Int32) : Option (Option Nat × Nat) := (idx 4 x).bind (tkO A s)
theorem VA.n31 {A : AM} (h : VA A) : aN A < 2 ^ 31 := by have := h.2.2.2.2.1; omega
theorem VA.get {A : AM} {s : Nat} (hs : s < aN A) : ∃ q, A.2.2[s]? = some q := ⟨_, List.getElem?_eq_getElem hs⟩
theorem s_hasStN {o n s : Nat} {I : MI} {J : MJ} {Q : Int32 → MI → MJ → Prop} (h : I o 1 = nI n) (hn : n < 2 ^ 31) (hs : s < n) : f_Machine_hasState o (nI s) I J Q ↔ Q 1 I J := by
  unfold f_Machine_hasState
  rw [h, if_neg (nI0_lt (by omega)), if_neg (nI_ge hs hn)]
theorem s_hasStB {o n : Nat} {x : Int32} {I : MI} {J : MJ} {Q : Int32 → MI → MJ → Prop} (h : I o 1 = nI n) (hb : x < 0 ∨ nI n ≤ x) : f_Machine_hasState o x I J Q ↔ Q 0 I J := by
  unfold f_Machine_hasState
  rw [h]
  by_cases h1 : x < 0
  · rw [if_pos h1]
  · rcases hb with h2 | h2
    · exact absurd h2 h1
    · rw [if_neg h1, if_pos h2]
theorem m_isStN {m n s : Nat} {I : MI} {J : MJ} {Q : Int32 → MI → MJ → Prop} (hm : m < 20) (h : I 185 m = nI n) (hn : n < 2 ^ 31) (hs : s < n) : f_Model_isState (nI m) (nI s) I J Q ↔ Q 1 I J := by
  unfold f_Model_isState
  rw [nI_clamp (by omega), h, if_neg (nI0_lt (by omega)), if_neg (nI_ge hs hn), vpN (by omega)]
  exact ⟨fun z => z.2, fun z => ⟨hm, z⟩⟩
theorem m_isStB {m n : Nat} {x : Int32} {I : MI} {J : MJ} {Q : Int32 → MI → MJ → Prop} (hm : m < 20) (h : I 185 m = nI n) (hb : x < 0 ∨ nI n ≤ x) : f_Model_isState (nI m) x I J Q ↔ Q 0 I J := by
  unfold f_Model_isState
  rw [nI_clamp (by omega), h, vpN (by omega)]
  by_cases h1 : x < 0
  · rw [if_pos h1]
  · rcases hb with h2 | h2
    · exact absurd h2 h1
    · rw [if_neg h1, if_pos h2]
      exact ⟨fun z => z.2, fun z => ⟨hm, z⟩⟩
theorem le_m1 {x : Int32} (h : ¬ x < 0) : (-1 : Int32) ≤ x := by
  obtain ⟨j, hj, rfl⟩ := nI_of h
  exact m1_le hj
theorem tX_none {A : AM} {s : Nat} {x : Int32} {q : Option ROW × Nat} (hq : A.2.2[s]? = some q) (hr : q.1 = none) : tX A s x = none := by
  unfold tX tkO
  rw [hq]
  simp [hr]
theorem tX_row {A : AM} {s a : Nat} {q : Option ROW × Nat} {r : ROW} (hq : A.2.2[s]? = some q) (hr : q.1 = some r) (ha : a < 4) : tX A s (nI a) = r[a]? := by
  unfold tX tkO idx
  rw [if_neg, nI_clamp (by omega), hq]
  · simp [hr]
  · rintro (h | h)
    · exact nI_pos (by omega) h
    · exact nI_ge ha (by decide) h
theorem tX_bad {A : AM} {s : Nat} {x : Int32} (h : x < 0 ∨ nI 4 ≤ x) : tX A s x = none := by
  unfold tX idx
  rw [if_pos h]
  rfl
theorem s_hasTk {o s : Nat} {A : AM} {x : Int32} {I : MI} {J : MJ} {Q : Int32 → MI → MJ → Prop} (hA : RepC I o A) (hv : VA A) (hs : s < aN A) : f_Machine_hasTake o (nI s) x I J Q ↔ Q (if (tX A s x).isSome then 1 else 0) I J := by
  have h14 : s < 14 := by have := hv.2.2.2.2.1; omega
  obtain ⟨q, hq⟩ := VA.get hs
  obtain ⟨g1, g2, g3⟩ := hA.2.2.2 s q hq
  unfold f_Machine_hasTake
  rw [hA.2.1, nI_clamp (by omega), vpN (by omega), if_neg (nI0_lt (by omega)), if_neg (nI_ge hs hv.n31)]
  have hb : x < 0 → tX A s x = none := fun h => tX_bad (Or.inl h)
  by_cases h1 : x < 0
  · rw [if_pos h1, hb h1]; simp
  · rw [if_neg h1]
    cases hr : q.1 with
    | none =>
      rw [tX_none hq hr, g2 hr, if_pos (le_m1 h1)]
      simp [h14]
    | some r =>
      have hr4 := (hv.row4 hq).2 r hr
      rw [(g3 r hr).1]
      obtain ⟨a, ha, rfl⟩ := nI_of h1
      simp only [leNN (show r.length < 2 ^ 31 by omega) ha]
      by_cases h4 : a < 4
      · rw [tX_row hq hr h4]
        by_cases hl : r.length ≤ a
        · rw [if_pos hl, List.getElem?_eq_none hl]; simp [h14]
        · rw [if_neg hl, List.getElem?_eq_getElem (by omega)]; simp [h14]
      · rw [if_pos (by omega), tX_bad (Or.inr (nI_le (by omega) ha))]; simp [h14]
theorem m_hasTk {m s : Nat} {A : AM} {x : Int32} {I : MI} {J : MJ} {Q : Int32 → MI → MJ → Prop} (hm : m < 20) (hA : RepM I m A) (hv : VA A) (hs : s < aN A) : f_Model_hasTake (nI m) (nI s) x I J Q ↔ Q (if (tX A s x).isSome then 1 else 0) I J := by
  have h14 : s < 14 := by have := hv.2.2.2.2.1; omega
  obtain ⟨q, hq⟩ := VA.get hs
  obtain ⟨g1, g2, g3⟩ := hA.2.2.2 s q hq
  unfold f_Model_hasTake
  rw [l14, pk_mul, nI_add, nI_clamp (by omega), vpN (by omega)]
  have hin : 14 * m + s < 280 := by omega
  by_cases h1 : x < 0
  · rw [if_pos h1, tX_bad (Or.inl h1)]; simp
  · rw [if_neg h1]
    cases hr : q.1 with
    | none =>
      rw [tX_none hq hr, g2 hr, if_pos (le_m1 h1)]
      simp [hin]
    | some r =>
      have hr4 := (hv.row4 hq).2 r hr
      rw [(g3 r hr).1]
      obtain ⟨a, ha, rfl⟩ := nI_of h1
      simp only [leNN (show r.length < 2 ^ 31 by omega) ha]
      by_cases h4 : a < 4
      · rw [tX_row hq hr h4]
        by_cases hl : r.length ≤ a
        · rw [if_pos hl, List.getElem?_eq_none hl]; simp [hin]
        · rw [if_neg hl, List.getElem?_eq_getElem (by omega)]; simp [hin]
      · rw [if_pos (by omega), tX_bad (Or.inr (nI_le (by omega) ha))]; simp [hin]
theorem tX_inv {A : AM} {s : Nat} {x : Int32} {y : Option Nat × Nat} (h : tX A s x = some y) : ∃ a q r, a < 4 ∧ x = nI a ∧ A.2.2[s]? = some q ∧ q.1 = some r ∧ r[a]? = some y := by
  unfold tX at h
  rcases idx_cases (N := 4) (by decide) x with ⟨a, ha, hx, e⟩ | ⟨hb, e⟩
  · rw [e] at h
    unfold tkO at h
    cases hq : A.2.2[s]? with
    | none => rw [hq] at h; cases h
    | some q =>
      rw [hq] at h
      cases hr : q.1 with
      | none => simp [hr] at h
      | some r =>
        simp [hr] at h
        exact ⟨a, q, r, ha, hx, rfl, hr, h⟩
  · rw [e] at h; cases h
theorem s_machAt {x : Int32} {I : MI} {J : MJ} {σ : SG} {Q : Option Nat → MI → MJ → Prop} (h : AbsS I J σ) : f_School_machineAt x I J Q ↔ Q (if fMa σ x = 0 then some (1 + 64 + 7 * x.toNatClampNeg + 1) else none) I J := by
  unfold f_School_machineAt
  rw [S_machF h]
  by_cases h0 : fMa σ x = 0
  · rw [if_pos h0, if_pos h0]
    rcases plc_cases x with ⟨p, hp, rfl, e⟩ | ⟨hb, e⟩
    · rw [vpN (by omega)]
      exact ⟨fun z => z.2, fun z => ⟨hp, z⟩⟩
    · rw [fMa_b hb] at h0; exact absurd h0 (by decide)
  · rw [if_neg h0, if_neg h0]
/-- the machine at a place -/
def maC (σ : SG) (x : Int32) : Option AM := match plc x with
  | none => none
  | some p => match σ.1 p with
    | some (.inl A) => some A
    | _ => none
theorem maC_cases (σ : SG) (x : Int32) : (∃ p A, p < 16 ∧ x = nI p ∧ σ.1 p = some (.inl A) ∧ maC σ x = some A ∧ fMa σ x = 0) ∨ (maC σ x = none ∧ fMa σ x ≠ 0) := by
  rcases plc_cases x with ⟨p, hp, rfl, e⟩ | ⟨hb, e⟩
  · cases ht : σ.1 p with
    | none => exact Or.inr ⟨by simp [maC, e, ht], by rw [fMa_n hp ht]; decide⟩
    | some t =>
      cases t with
      | inl A => exact Or.inl ⟨p, A, hp, rfl, ht, by simp [maC, e, ht], fMa_l hp ht⟩
      | inr t => exact Or.inr ⟨by simp [maC, e, ht], by rw [fMa_r hp ht]; decide⟩
  · exact Or.inr ⟨by simp [maC, e], by rw [fMa_b hb]; decide⟩
theorem okM_p {p : Nat} (hp : p < 16) : okM (1 + 64 + 7 * p + 1) := (okP_all p hp).2.1
def opSays (x s : Int32) (σ : SG) : Int32 := match maC σ x with
  | none => -1
  | some A => match idx (aN A) s with
    | none => -1
    | some s => nI (anS A s)
theorem anS_of {A : AM} {s : Nat} {q : Option ROW × Nat} (h : A.2.2[s]? = some q) : anS A s = q.2 := by simp [anS, h]
theorem S_says {x s : Int32} {I : MI} {J : MJ} {σ : SG} {Q : Int32 → MI → MJ → Prop} (h : AbsS I J σ) (q : Q (opSays x s σ) I J) : f_School_says x s I J Q := by
  unfold f_School_says
  rw [s_machAt h]
  unfold opSays at q
  rcases maC_cases σ x with ⟨p, A, hp, rfl, ht, e, e0⟩ | ⟨e, e0⟩
  · rw [e] at q
    rw [if_pos e0, nI_clamp (by omega)]
    simp only at q ⊢
    have hP := (h.1 p hp).1
    rw [ht] at hP
    obtain ⟨g1, g2, g3⟩ := hP
    refine ⟨okM_p hp, ?_⟩
    rcases idx_cases g3.n31 s with ⟨i, hi, rfl, ei⟩ | ⟨hb, ei⟩
    · rw [ei] at q
      simp only at q
      have h14 : i < 14 := by have := g3.2.2.2.2.1; omega
      obtain ⟨z, hz⟩ := VA.get hi
      rw [s_hasStN g2.2.1 g3.n31 hi, if_neg (by decide), nI_clamp (by omega), vpN (by omega), (g2.2.2.2 i z hz).1]
      rw [anS_of hz] at q
      exact ⟨h14, q⟩
    · rw [ei] at q
      rw [s_hasStB g2.2.1 hb, if_pos rfl]
      exact q
  · rw [e] at q
    rw [if_neg e0]
    exact q
theorem M_says {x s : Int32} {I : MI} {J : MJ} {σ : SG} {Q : Int32 → MI → MJ → Prop} (h : AbsM I J σ) (q : Q (opSays x s σ) I J) : f_Model_says x s I J Q := by
  unfold f_Model_says
  rw [M_isM h]
  unfold opSays at q
  rcases maC_cases σ x with ⟨p, A, hp, rfl, ht, e, e0⟩ | ⟨e, e0⟩
  · rw [e] at q
    rw [if_pos e0, if_neg (by decide)]
    simp only at q
    have hP := (h.1 p hp).1
    rw [ht] at hP
    obtain ⟨g1, g2, g3⟩ := hP
    rcases idx_cases g3.n31 s with ⟨i, hi, rfl, ei⟩ | ⟨hb, ei⟩
    · rw [ei] at q
      simp only at q
      have h14 : i < 14 := by have := g3.2.2.2.2.1; omega
      obtain ⟨z, hz⟩ := VA.get hi
      rw [m_isStN (by omega) g2.2.1 g3.n31 hi, if_neg (by decide), l14, pk_mul, nI_add, nI_clamp (by omega), vpN (by omega), (g2.2.2.2 i z hz).1]
      rw [anS_of hz] at q
      exact ⟨by omega, q⟩
    · rw [ei] at q
      rw [m_isStB (by omega) g2.2.1 hb, if_pos rfl]
      exact q
  · rw [e] at q
    rw [if_neg e0, if_pos rfl]
    exact q
