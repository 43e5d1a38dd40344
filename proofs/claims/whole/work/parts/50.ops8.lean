theorem fMa_ne {σ : SG} {x : Int32} (h : fMa σ x ≠ 0) : ¬ fMa σ x = 0 := h
theorem S_say {x s v : Int32} {I : MI} {J : MJ} {σ : SG} {Q : Int32 → MI → MJ → Prop} (h : AbsS I J σ) (q : KS I J (opSay x s v σ) Q) : f_School_say x s v I J Q := by
  unfold f_School_say
  rw [S_machF h]
  unfold opSay at q
  rcases maC_cases σ x with ⟨p, A, hp, rfl, ht, e, e0⟩ | ⟨e, e0⟩
  · rw [e] at q
    rw [e0, if_pos rfl, nI_clamp (by omega), vpN (by omega)]
    simp only at q
    rw [nI_clamp (by omega)] at q
    have hP := (h.1 p hp).1
    rw [ht] at hP
    obtain ⟨g1, g2, g3⟩ := hP
    refine ⟨hp, ?_⟩
    unfold f_School_say_b31
    rcases idx_cases g3.n31 s with ⟨i, hi, rfl, ei⟩ | ⟨hb, ei⟩
    · rw [ei] at q
      simp only at q
      have h14 : i < 14 := by have := g3.2.2.2.2.1; omega
      obtain ⟨z, hz⟩ := VA.get hi
      rw [s_hasStN g2.2.1 g3.n31 hi, if_neg (by decide), if_pos rfl, nI_clamp (by omega), vpN (by omega)]
      rw [stQ_of hz] at q
      have hk := g3.1
      by_cases h1 : v < 0
      · rw [if_pos h1]
        rw [if_pos (Or.inl h1)] at q
        unfold f_School_say_b56 f_School_say_b59
        rw [if_neg (by decide)]
        exact q.ref h
      · rw [if_neg h1]
        refine ⟨hp, ?_⟩
        have key : ∀ (b : Nat), b ≤ 8 → (if A.1 = 0 then (1 : Int32) else 7) = nI (b - 1) → 1 ≤ b → (b - 1 ≤ (if A.1 = 0 then 1 else 7)) → (if v < nI b then f_School_say_b59 (nI p) (nI i) v 0 Q I J else f_School_say_b56 (nI p) (nI i) v Q I J) := by
          intro b hb8 hlim hb1 hle
          obtain ⟨n, hn, rfl⟩ := nI_of h1
          by_cases h2 : n < b
          · rw [if_pos (show nI n < nI b by rw [ltNN hn (by omega)]; exact h2)]
            rw [hlim, if_neg (show ¬ (nI n < 0 ∨ nI (b - 1) < nI n) by
              rintro (u | u)
              · exact h1 u
              · rw [ltNN (by omega) hn] at u; omega), nI_clamp hn] at q
            unfold f_School_say_b59
            rw [if_pos rfl, nI_clamp (by omega), nI_clamp (by omega), vpN (by omega), vpN (by omega)]
            refine ⟨hp, h14, fun I1 e1 => ?_⟩
            have hI : ∀ j, j ≠ 1 + 64 + 7 * p + 1 + 4 → I1 j = I j := fun j hj => by rw [e1, sI_n _ _ hj]
            have h4 : ∀ j, I1 (1 + 64 + 7 * p + 1 + 4) j = if j = i then nI n else I (1 + 64 + 7 * p + 1 + 4) j := fun j => by rw [e1, sI_s, upd_at]
            obtain ⟨r1, r2, r3⟩ := g2.2.2.2 i z hz
            have hvr := g3.2.2.2.2.2 z (List.mem_of_getElem? hz)
            refine q.don ⟨fun j hj => hI j (by omega), fun _ _ => rfl⟩ (h.mach hp ht (fun j hj => hI j (by omega)) rfl (g2.set g3 hi (hI _ (by omega)) (fun j _ => by rw [hI _ (by omega)]) (fun j hj => by rw [h4, if_neg hj]) (fun j _ => by rw [hI _ (by omega), hI _ (by omega)]; exact ⟨rfl, rfl⟩) ⟨by rw [h4, if_pos rfl], fun hn => by rw [hI _ (by omega)]; exact r2 hn, fun r hr => by rw [hI _ (by omega), hI _ (by omega), hI _ (by omega)]; exact r3 r hr⟩) (setQ_VA g3 ⟨?_, hvr.2.1, hvr.2.2⟩))
            show n ≤ _
            omega
          · rw [if_neg (show ¬ nI n < nI b by rw [ltNN hn (by omega)]; exact h2)]
            rw [hlim, if_pos (Or.inr (show nI (b - 1) < nI n by rw [ltNN (by omega) hn]; omega))] at q
            unfold f_School_say_b56 f_School_say_b59
            rw [if_neg (by decide)]
            exact q.ref h
        unfold f_Machine_answersOfKind
        rw [g2.1]
        by_cases hA0 : A.1 = 0
        · rw [if_pos (show nI A.1 = 0 by rw [hA0]; rfl)]
          exact key 2 (by decide) (by rw [if_pos hA0]; rfl) (by decide) (by rw [if_pos hA0]; decide)
        · rw [if_neg (show ¬ nI A.1 = 0 by rw [l0, eqNN (by omega) (by decide)]; exact hA0)]
          exact key 8 (by decide) (by rw [if_neg hA0]; rfl) (by decide) (by rw [if_neg hA0]; decide)
    · rw [ei] at q
      rw [s_hasStB g2.2.1 hb, if_pos rfl, if_neg (by decide)]
      unfold f_School_say_b59
      rw [if_neg (by decide)]
      exact q.ref h
  · rw [e] at q
    rw [if_neg e0]
    unfold f_School_say_b31 f_School_say_b59
    rw [if_neg e0, if_neg e0]
    exact q.ref h
theorem M_say {x s v : Int32} {I : MI} {J : MJ} {σ : SG} {Q : Int32 → MI → MJ → Prop} (h : AbsM I J σ) (q : KM I J (opSay x s v σ) Q) : f_Model_say x s v I J Q := by
  unfold f_Model_say
  rw [M_noM h]
  unfold opSay at q
  rcases maC_cases σ x with ⟨p, A, hp, rfl, ht, e, e0⟩ | ⟨e, e0⟩
  · rw [e] at q
    rw [e0, if_pos rfl]
    simp only at q
    rw [nI_clamp (by omega)] at q
    have hP := (h.1 p hp).1
    rw [ht] at hP
    obtain ⟨g1, g2, g3⟩ := hP
    unfold f_Model_say_b50
    rcases idx_cases g3.n31 s with ⟨i, hi, rfl, ei⟩ | ⟨hb, ei⟩
    · rw [ei] at q
      simp only at q
      have h14 : i < 14 := by have := g3.2.2.2.2.1; omega
      obtain ⟨z, hz⟩ := VA.get hi
      rw [m_isStN (by omega) g2.2.1 g3.n31 hi, if_neg (by decide), nI_clamp (by omega), vpN (by omega)]
      rw [stQ_of hz] at q
      have hk := g3.1
      by_cases h1 : v < 0
      · rw [if_pos h1]
        rw [if_pos (Or.inl h1)] at q
        exact q.ref h
      · rw [if_neg h1]
        refine ⟨hp, ?_⟩
        have key : ∀ (b : Nat), b ≤ 7 → (if A.1 = 0 then (1 : Int32) else 7) = nI b → (b ≤ (if A.1 = 0 then 1 else 7)) → f_Model_say_b47 (nI p) (nI i) v v (nI b) Q I J := by
          intro b hb8 hlim hle
          obtain ⟨n, hn, rfl⟩ := nI_of h1
          unfold f_Model_say_b47 f_Model_say_b50
          by_cases h2 : n ≤ b
          · rw [if_pos (show nI n ≤ nI b by rw [leNN hn (by omega)]; exact h2)]
            rw [hlim, if_neg (show ¬ (nI n < 0 ∨ nI b < nI n) by
              rintro (u | u)
              · exact h1 u
              · rw [ltNN (by omega) hn] at u; omega), nI_clamp hn] at q
            rw [l14, pk_mul, nI_add, nI_clamp (by omega), vpN (by omega)]
            refine ⟨by omega, fun I1 e1 => ?_⟩
            have hI : ∀ j, j ≠ 187 → I1 j = I j := fun j hj => by rw [e1, sI_n _ _ hj]
            have h4 : ∀ j, I1 187 j = if j = 14 * p + i then nI n else I 187 j := fun j => by rw [e1, sI_s, upd_at]
            obtain ⟨r1, r2, r3⟩ := g2.2.2.2 i z hz
            have hvr := g3.2.2.2.2.2 z (List.mem_of_getElem? hz)
            refine q.don ⟨fun j hj => hI j (by omega), fun _ _ => rfl⟩ (h.mach hp ht (fun j hj => hI j (by omega)) (fun j hj => ⟨by rw [h4, if_neg (by omega)], by rw [hI 188 (by omega)]⟩) (fun j _ => ⟨by rw [hI 189 (by omega)], by rw [hI 190 (by omega)]⟩) rfl (g2.set g3 hi ⟨by rw [hI 184 (by omega)], by rw [hI 185 (by omega)], by rw [hI 186 (by omega)]⟩ (fun j hj => ⟨by rw [h4, if_neg hj], by rw [hI 188 (by omega)]⟩) (fun j _ => by rw [hI 189 (by omega), hI 190 (by omega)]; exact ⟨rfl, rfl⟩) ⟨by rw [h4, if_pos rfl], fun hn => by rw [hI 188 (by omega)]; exact r2 hn, fun r hr => by rw [hI 188 (by omega), hI 189 (by omega), hI 190 (by omega)]; exact r3 r hr⟩) (setQ_VA g3 ⟨?_, hvr.2.1, hvr.2.2⟩))
            show n ≤ _
            omega
          · rw [if_neg (show ¬ nI n ≤ nI b by rw [leNN hn (by omega)]; exact h2)]
            rw [hlim, if_pos (Or.inr (show nI b < nI n by rw [ltNN (by omega) hn]; omega))] at q
            exact q.ref h
        rw [g1]
        by_cases hA0 : A.1 = 0
        · rw [if_pos (show nI A.1 = 0 by rw [hA0]; rfl)]
          exact key 1 (by decide) (by rw [if_pos hA0]; rfl) (by rw [if_pos hA0]; decide)
        · rw [if_neg (show ¬ nI A.1 = 0 by rw [l0, eqNN (by omega) (by decide)]; exact hA0)]
          exact key 7 (by decide) (by rw [if_neg hA0]; rfl) (by rw [if_neg hA0]; decide)
    · rw [ei] at q
      rw [m_isStB (by omega) g2.2.1 hb, if_pos rfl]
      exact q.ref h
  · rw [e] at q
    rw [if_neg e0, M_noM h]
    exact q.ref h
