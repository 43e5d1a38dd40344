/-! row, cut -/
def setA (σ : SG) (x : Int32) (A : AM) : SG := setF (setD σ x.toNatClampNeg (some (.inl A))) x.toNatClampNeg (σ.2.1 x.toNatClampNeg)
theorem newRowK {o s : Nat} {v : Int32} {I : MI} {J : MJ} {Q : MI → MJ → Prop} (hs : s < 14) (k : ∀ I' : MI, (∀ i, i ≠ o + 1 → i ≠ o + 2 → i ≠ o + 3 → I' i = I i) → (∀ j, I' (o + 1) j = if j = s then v else I (o + 1) j) → (∀ j, I' (o + 2) j = if s * 4 ≤ j ∧ j < s * 4 + 4 then -1 else I (o + 2) j) → (∀ j, I' (o + 3) j = if s * 4 ≤ j ∧ j < s * 4 + 4 then 0 else I (o + 3) j) → Q I' J) : f_Machine_newRow o (nI s) v I J Q := by
  unfold f_Machine_newRow
  rw [vpN (by omega), nI_clamp (by omega)]
  refine ⟨hs, fun I0 e0 => ⟨5, ?_⟩⟩
  have key : ∀ (r a : Nat) (I1 : MI), a + r = 4 → (∀ i, i ≠ o + 2 → i ≠ o + 3 → I1 i = I0 i) → (∀ j, I1 (o + 2) j = if s * 4 ≤ j ∧ j < s * 4 + a then -1 else I (o + 2) j) → (∀ j, I1 (o + 3) j = if s * 4 ≤ j ∧ j < s * 4 + a then 0 else I (o + 3) j) → f_Machine_newRow_L9 o (nI s) (fun I J => Q I J) (r + 1) (nI a) I1 J := by
    intro r
    induction r with
    | zero =>
      intro a I1 ha h1 h2 h3
      have : a = 4 := by omega
      subst this
      unfold f_Machine_newRow_L9
      rw [if_pos (by decide)]
      refine k I1 (fun i u1 u2 u3 => by rw [h1 i u2 u3, e0, sI_n _ _ u1]) (fun j => ?_) h2 h3
      rw [h1 _ (by omega) (by omega), e0, sI_s, upd_at]
    | succ r ih =>
      intro a I1 ha h1 h2 h3
      unfold f_Machine_newRow_L9
      rw [if_neg (show ¬ (4 : Int32) ≤ nI a from nI_ge (b := 4) (by omega) (by decide)), l4, pk_mul, nI_add, nI_clamp (by omega), vpN (by omega)]
      refine ⟨by omega, fun I2 e2 => ⟨by omega, fun I3 e3 t et => ?_⟩⟩
      rw [et, nI_1]
      refine ih (a + 1) I3 (by omega) (fun i u1 u2 => by rw [e3, sI_n _ _ u2, e2, sI_n _ _ u1, h1 i u1 u2]) (fun j => ?_) (fun j => ?_)
      · rw [e3, sI_n _ _ (by omega), e2, sI_s, upd_at, h2 j]
        by_cases c1 : j = s * 4 + a
        · rw [if_pos c1, if_pos (by omega)]
        · rw [if_neg c1]
          by_cases c2 : s * 4 ≤ j ∧ j < s * 4 + a
          · rw [if_pos c2, if_pos (by omega)]
          · rw [if_neg c2, if_neg (by omega)]
      · rw [e3, sI_s, upd_at, e2, sI_n _ _ (by omega), h3 j]
        by_cases c1 : j = s * 4 + a
        · rw [if_pos c1, if_pos (by omega)]
        · rw [if_neg c1]
          by_cases c2 : s * 4 ≤ j ∧ j < s * 4 + a
          · rw [if_pos c2, if_pos (by omega)]
          · rw [if_neg c2, if_neg (by omega)]
  refine key 4 0 I0 (by omega) (fun _ _ _ => rfl) (fun j => ?_) (fun j => ?_)
  · rw [if_neg (by omega), e0, sI_n _ _ (by omega)]
  · rw [if_neg (by omega), e0, sI_n _ _ (by omega)]
def opCut (x s : Int32) (σ : SG) : Int32 × SG := match maC σ x with
  | none => ref (fMa σ x) σ
  | some A => if A.1 < 2 then ref 4 σ else match idx (aN A) s with
    | none => ref 2 σ
    | some i => don 0 (setA σ x (setQ A i (none, (stQ A i).2)))
def opRow (x s n : Int32) (σ : SG) : Int32 × SG := match maC σ x with
  | none => ref (fMa σ x) σ
  | some A => if A.1 < 2 then ref 4 σ else match idx (aN A) s with
    | none => ref 2 σ
    | some i => if n < 0 then ref 3 σ else if nI A.2.1 < n then ref 2 σ else don n (setA σ x (setQ A i (some (List.replicate n.toNatClampNeg (none, 0)), (stQ A i).2)))
theorem s_firm {o : Nat} {A : AM} {I : MI} {J : MJ} {Q : Int32 → MI → MJ → Prop} (h : I o 0 = nI A.1) (hk : A.1 ≤ 3) : f_Machine_isFirm o I J Q ↔ Q (if A.1 < 2 then 1 else 0) I J := by
  unfold f_Machine_isFirm f_Machine_isFirm_b15
  rw [h]
  by_cases h0 : A.1 = 0
  · rw [if_pos (show nI A.1 = 0 by rw [h0]; rfl), if_pos (by omega)]
  · rw [if_neg (show ¬ nI A.1 = 0 by rw [l0, eqNN (by omega) (by decide)]; exact h0)]
    by_cases h1 : A.1 = 1
    · rw [if_pos (show nI A.1 = 1 by rw [h1]; rfl), if_pos (by omega)]
    · rw [if_neg (show ¬ nI A.1 = 1 by rw [l1, eqNN (by omega) (by decide)]; exact h1), if_neg (by omega)]
/-- the finding that row and cut begin with -/
def fLo (σ : SG) (x s : Int32) : Int32 := match maC σ x with
  | none => fMa σ x
  | some A => if A.1 < 2 then 4 else match idx (aN A) s with
    | none => 2
    | some _ => 0
theorem s_loose {x s : Int32} {I : MI} {J : MJ} {σ : SG} {Q : Int32 → MI → MJ → Prop} (h : AbsS I J σ) : f_School_looseRowFault x s I J Q ↔ Q (fLo σ x s) I J := by
  unfold f_School_looseRowFault fLo
  rw [S_machF h]
  rcases maC_cases σ x with ⟨p, A, hp, rfl, ht, e, e0⟩ | ⟨e, e0⟩
  · rw [e, e0, if_pos rfl, nI_clamp (by omega), vpN (by omega)]
    simp only
    have hP := (h.1 p hp).1
    rw [ht] at hP
    obtain ⟨g1, g2, g3⟩ := hP
    rw [s_firm g2.1 g3.1]
    unfold f_School_looseRowFault_b27
    by_cases h2 : A.1 < 2
    · rw [if_pos h2, if_pos h2, if_neg (by decide), if_neg (by decide)]
      exact ⟨fun z => z.2, fun z => ⟨hp, z⟩⟩
    · rw [if_neg h2, if_neg h2, if_pos rfl, if_pos rfl, nI_clamp (by omega), vpN (by omega)]
      rcases idx_cases g3.n31 s with ⟨i, hi, rfl, ei⟩ | ⟨hb, ei⟩
      · rw [ei, s_hasStN g2.2.1 g3.n31 hi, if_neg (by decide)]
        exact ⟨fun z => z.2.2, fun z => ⟨hp, hp, z⟩⟩
      · rw [ei, s_hasStB g2.2.1 hb, if_pos rfl]
        exact ⟨fun z => z.2.2, fun z => ⟨hp, hp, z⟩⟩
  · rw [e, if_neg e0]
    unfold f_School_looseRowFault_b27
    rw [if_neg e0]
