theorem fLo_k {σ : SG} {x s : Int32} {A : AM} (h : maC σ x = some A) (h2 : A.1 < 2) : fLo σ x s = 4 := by simp [fLo, h, h2]
theorem fLo_n {σ : SG} {x s : Int32} {A : AM} (h : maC σ x = some A) (h2 : ¬ A.1 < 2) (hi : idx (aN A) s = none) : fLo σ x s = 2 := by simp [fLo, h, h2, hi]
theorem fLo_s {σ : SG} {x s : Int32} {A : AM} {i : Nat} (h : maC σ x = some A) (h2 : ¬ A.1 < 2) (hi : idx (aN A) s = some i) : fLo σ x s = 0 := by simp [fLo, h, h2, hi]
theorem S_cut {x s : Int32} {I : MI} {J : MJ} {σ : SG} {Q : Int32 → MI → MJ → Prop} (h : AbsS I J σ) (q : KS I J (opCut x s σ) Q) : f_School_cut x s I J Q := by
  unfold f_School_cut
  rw [s_loose h]
  unfold opCut at q
  rcases maC_cases σ x with ⟨p, A, hp, rfl, ht, e, e0⟩ | ⟨e, e0⟩
  · rw [e] at q
    simp only at q
    have hP := (h.1 p hp).1
    rw [ht] at hP
    obtain ⟨g1, g2, g3⟩ := hP
    by_cases h2 : A.1 < 2
    · rw [if_pos h2] at q
      rw [fLo_k e h2, if_neg (by decide)]
      exact q.ref h
    · rw [if_neg h2] at q
      rcases idx_cases g3.n31 s with ⟨i, hi, rfl, ei⟩ | ⟨hb, ei⟩
      · rw [ei] at q
        rw [fLo_s e h2 ei]
        simp only at q
        have h14 : i < 14 := by have := g3.2.2.2.2.1; omega
        obtain ⟨z, hz⟩ := VA.get hi
        unfold setA at q
        rw [stQ_of hz, nI_clamp (by omega)] at q
        rw [if_pos rfl, nI_clamp (by omega), vpN (by omega)]
        obtain ⟨r1, r2, r3⟩ := g2.2.2.2 i z hz
        have hvr := g3.2.2.2.2.2 z (List.mem_of_getElem? hz)
        refine ⟨hp, newRowK h14 (fun I1 f0 f1 f2 f3 => q.don ⟨fun j hj => f0 j (by omega) (by omega) (by omega), fun _ _ => rfl⟩ (h.mach hp ht (fun j hj => f0 j (by omega) (by omega) (by omega)) rfl (g2.set g3 hi (f0 _ (by omega) (by omega) (by omega)) (fun j hj => by rw [f1, if_neg hj]) (fun j _ => by rw [f0 _ (by omega) (by omega) (by omega)]) (fun j hj => ⟨by rw [f2, if_neg (by omega)], by rw [f3, if_neg (by omega)]⟩) ⟨by rw [f0 _ (by omega) (by omega) (by omega)]; exact r1, fun _ => by rw [f1, if_pos rfl], fun r hr => by cases hr⟩) (setQ_VA g3 ⟨hvr.1, fun hk => absurd hk h2, fun r hr => by cases hr⟩)))⟩
      · rw [ei] at q
        rw [fLo_n e h2 ei, if_neg (by decide)]
        exact q.ref h
  · rw [e] at q
    have : fLo σ x s = fMa σ x := by simp [fLo, e]
    rw [this, if_neg e0]
    exact q.ref h
theorem M_cut {x s : Int32} {I : MI} {J : MJ} {σ : SG} {Q : Int32 → MI → MJ → Prop} (h : AbsM I J σ) (q : KM I J (opCut x s σ) Q) : f_Model_cut x s I J Q := by
  unfold f_Model_cut
  rw [M_noM h]
  unfold opCut at q
  rcases maC_cases σ x with ⟨p, A, hp, rfl, ht, e, e0⟩ | ⟨e, e0⟩
  · rw [e] at q
    rw [e0, if_pos rfl, nI_clamp (by omega), vpN (by omega)]
    simp only at q
    have hP := (h.1 p hp).1
    rw [ht] at hP
    obtain ⟨g1, g2, g3⟩ := hP
    have hk := g3.1
    rw [g1]
    refine ⟨hp, ?_⟩
    by_cases h2 : A.1 < 2
    · rw [if_pos h2] at q
      rw [if_neg (show ¬ (2 : Int32) ≤ nI A.1 by rw [l2, leNN (by decide) (by omega)]; omega)]
      exact q.ref h
    · rw [if_neg h2] at q
      rw [if_pos (show (2 : Int32) ≤ nI A.1 by rw [l2, leNN (by decide) (by omega)]; omega)]
      rcases idx_cases g3.n31 s with ⟨i, hi, rfl, ei⟩ | ⟨hb, ei⟩
      · rw [ei] at q
        simp only at q
        have h14 : i < 14 := by have := g3.2.2.2.2.1; omega
        obtain ⟨z, hz⟩ := VA.get hi
        unfold setA at q
        rw [stQ_of hz, nI_clamp (by omega)] at q
        rw [m_isStN (by omega) g2.2.1 g3.n31 hi, if_neg (by decide), l14, pk_mul, nI_add, nI_clamp (by omega), vpN (by omega)]
        obtain ⟨r1, r2, r3⟩ := g2.2.2.2 i z hz
        have hvr := g3.2.2.2.2.2 z (List.mem_of_getElem? hz)
        refine ⟨by omega, fun I1 e1 => ?_⟩
        have hI : ∀ j, j ≠ 188 → I1 j = I j := fun j hj => by rw [e1, sI_n _ _ hj]
        have h4 : ∀ j, I1 188 j = if j = 14 * p + i then -1 else I 188 j := fun j => by rw [e1, sI_s, upd_at]
        exact q.don ⟨fun j hj => hI j (by omega), fun _ _ => rfl⟩ (h.mach hp ht (fun j hj => hI j (by omega)) (fun j hj => ⟨by rw [hI 187 (by omega)], by rw [h4, if_neg (by omega)]⟩) (fun j _ => ⟨by rw [hI 189 (by omega)], by rw [hI 190 (by omega)]⟩) rfl (g2.set g3 hi ⟨by rw [hI 184 (by omega)], by rw [hI 185 (by omega)], by rw [hI 186 (by omega)]⟩ (fun j hj => ⟨by rw [hI 187 (by omega)], by rw [h4, if_neg hj]⟩) (fun j _ => by rw [hI 189 (by omega), hI 190 (by omega)]; exact ⟨rfl, rfl⟩) ⟨by rw [hI 187 (by omega)]; exact r1, fun _ => by rw [h4, if_pos rfl], fun r hr => by cases hr⟩) (setQ_VA g3 ⟨hvr.1, fun hk => absurd hk h2, fun r hr => by cases hr⟩))
      · rw [ei] at q
        rw [m_isStB (by omega) g2.2.1 hb, if_pos rfl]
        exact q.ref h
  · rw [e] at q
    rw [if_neg e0, M_noM h]
    exact q.ref h
