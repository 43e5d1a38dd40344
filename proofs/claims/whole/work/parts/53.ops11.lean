/-! loops: a measure and an invariant -/
theorem lp {S : Type} (F : Nat → S → Prop) (m : S → Nat) (Inv : S → Prop) (step : ∀ s, Inv s → ∀ n, (∀ s', Inv s' → m s' < m s → F n s') → F (n + 1) s) {s : S} (h : Inv s) : ∃ n, F n s := by
  have key : ∀ (k : Nat) (s : S), Inv s → m s < k → F k s := by
    intro k
    induction k with
    | zero => intro s _ hm; exact absurd hm (by omega)
    | succ k ih => intro s hs hm; exact step s hs k (fun s' hs' hm' => ih s' hs' (by omega))
  exact ⟨m s + 1, key _ s h (by omega)⟩
theorem rep_get {α : Type} {n a : Nat} {x y : α} (h : (List.replicate n x)[a]? = some y) : a < n ∧ y = x := by
  obtain ⟨h1, h2⟩ := List.getElem?_eq_some_iff.mp h
  simp at h1 h2
  exact ⟨h1, h2.symm⟩
theorem VR_rep {n k kd v : Nat} (hv : v ≤ (if kd = 0 then 1 else 7)) (h2 : ¬ kd < 2) {c : Nat} (hc : c ≤ k) : VR n k kd (some (List.replicate c (none, 0)), v) := by
  refine ⟨hv, fun h => absurd h h2, fun r hr => ?_⟩
  cases hr
  refine ⟨by simpa using hc, fun x hx => ?_⟩
  rw [(List.mem_replicate.mp hx).2]
  exact ⟨(fun t ht => by cases ht), by decide, fun _ => rfl⟩
theorem S_row {x s v : Int32} {I : MI} {J : MJ} {σ : SG} {Q : Int32 → MI → MJ → Prop} (h : AbsS I J σ) (q : KS I J (opRow x s v σ) Q) : f_School_row x s v I J Q := by
  unfold f_School_row
  rw [s_loose h]
  unfold opRow at q
  unfold f_School_row_b20 f_School_row_b44
  rcases maC_cases σ x with ⟨p, A, hp, rfl, ht, e, e0⟩ | ⟨e, e0⟩
  · rw [e] at q
    simp only at q
    have hP := (h.1 p hp).1
    rw [ht] at hP
    obtain ⟨g1, g2, g3⟩ := hP
    by_cases h2 : A.1 < 2
    · rw [if_pos h2] at q
      rw [fLo_k e h2, if_neg (by decide), if_neg (by decide), if_neg (by decide)]
      exact q.ref h
    · rw [if_neg h2] at q
      rcases idx_cases g3.n31 s with ⟨i, hi, rfl, ei⟩ | ⟨hb, ei⟩
      · rw [ei] at q
        rw [fLo_s e h2 ei]
        simp only at q
        have h14 : i < 14 := by have := g3.2.2.2.2.1; omega
        obtain ⟨z, hz⟩ := VA.get hi
        unfold setA at q
        rw [stQ_of hz, nI_clamp (by omega)] at q
        obtain ⟨r1, r2, r3⟩ := g2.2.2.2 i z hz
        have hvr := g3.2.2.2.2.2 z (List.mem_of_getElem? hz)
        have hk4 := g3.2.2.1
        rw [if_pos rfl, if_pos rfl, if_pos rfl, if_neg (show ¬ (3 : Int32) = 0 by decide), if_neg (show ¬ (2 : Int32) = 0 by decide), if_neg (show ¬ (3 : Int32) = 0 by decide), nI_clamp (by omega), vpN (by omega), g2.2.2.1]
        by_cases h3 : v < 0
        · rw [if_pos h3] at q
          rw [if_neg (show ¬ (0 : Int32) ≤ v from fun hh => by rw [Int32.le_iff_toInt_le] at hh; rw [Int32.lt_iff_toInt_lt] at h3; omega)]
          exact q.ref h
        · rw [if_neg h3] at q
          obtain ⟨c, hc, rfl⟩ := nI_of h3
          rw [if_pos (nI0_le hc)]
          refine ⟨hp, ?_⟩
          by_cases h5 : c ≤ A.2.1
          · rw [if_neg (show ¬ nI A.2.1 < nI c by rw [ltNN (by omega) hc]; omega), nI_clamp hc] at q
            rw [if_pos (show nI c ≤ nI A.2.1 by rw [leNN hc (by omega)]; exact h5)]
            refine ⟨hp, newRowK h14 (fun I1 f0 f1 f2 f3 => q.don ⟨fun j hj => f0 j (by omega) (by omega) (by omega), fun _ _ => rfl⟩ (h.mach hp ht (fun j hj => f0 j (by omega) (by omega) (by omega)) rfl (g2.set g3 hi (f0 _ (by omega) (by omega) (by omega)) (fun j hj => by rw [f1, if_neg hj]) (fun j _ => by rw [f0 _ (by omega) (by omega) (by omega)]) (fun j hj => ⟨by rw [f2, if_neg (by omega)], by rw [f3, if_neg (by omega)]⟩) ⟨by rw [f0 _ (by omega) (by omega) (by omega)]; exact r1, (fun hh => by cases hh), fun r hr => ?_⟩) (setQ_VA g3 (VR_rep hvr.1 h2 h5))))⟩
            cases hr
            refine ⟨by rw [f1, if_pos rfl]; simp, fun a y hy => ?_⟩
            obtain ⟨ha, rfl⟩ := rep_get hy
            exact ⟨by rw [f2, if_pos (by omega)]; rfl, by rw [f3, if_pos (by omega)]; rfl⟩
          · rw [if_pos (show nI A.2.1 < nI c by rw [ltNN (by omega) hc]; omega)] at q
            rw [if_neg (show ¬ nI c ≤ nI A.2.1 by rw [leNN hc (by omega)]; exact h5)]
            exact q.ref h
      · rw [ei] at q
        rw [fLo_n e h2 ei, if_neg (by decide), if_neg (by decide), if_neg (by decide)]
        exact q.ref h
  · rw [e] at q
    have : fLo σ x s = fMa σ x := by simp [fLo, e]
    rw [this, if_neg e0, if_neg e0, if_neg e0]
    exact q.ref h
theorem M_row {x s v : Int32} {I : MI} {J : MJ} {σ : SG} {Q : Int32 → MI → MJ → Prop} (h : AbsM I J σ) (q : KM I J (opRow x s v σ) Q) : f_Model_row x s v I J Q := by
  unfold f_Model_row
  rw [M_noM h]
  unfold opRow at q
  rcases maC_cases σ x with ⟨p, A, hp, rfl, ht, e, e0⟩ | ⟨e, e0⟩
  · rw [e] at q
    rw [e0, if_pos rfl, nI_clamp (by omega), vpN (by omega)]
    simp only at q
    have hP := (h.1 p hp).1
    rw [ht] at hP
    obtain ⟨g1, g2, g3⟩ := hP
    have hk := g3.1
    rw [g1]
    refine ⟨hp, ?_⟩
    by_cases h2 : A.1 < 2
    · rw [if_pos h2] at q
      rw [if_neg (show ¬ (2 : Int32) ≤ nI A.1 by rw [l2, leNN (by decide) (by omega)]; omega)]
      exact q.ref h
    · rw [if_neg h2] at q
      rw [if_pos (show (2 : Int32) ≤ nI A.1 by rw [l2, leNN (by decide) (by omega)]; omega)]
      rcases idx_cases g3.n31 s with ⟨i, hi, rfl, ei⟩ | ⟨hb, ei⟩
      · rw [ei] at q
        simp only at q
        have h14 : i < 14 := by have := g3.2.2.2.2.1; omega
        obtain ⟨z, hz⟩ := VA.get hi
        unfold setA at q
        rw [stQ_of hz, nI_clamp (by omega)] at q
        rw [m_isStN (by omega) g2.2.1 g3.n31 hi, if_neg (by decide), l14, pk_mul, nI_add, nI_clamp (by omega), vpN (by omega), vpN (by omega), g2.2.2.1]
        obtain ⟨r1, r2, r3⟩ := g2.2.2.2 i z hz
        have hvr := g3.2.2.2.2.2 z (List.mem_of_getElem? hz)
        have hk4 := g3.2.2.1
        by_cases h3 : v < 0
        · rw [if_pos h3] at q
          rw [if_neg (show ¬ (0 : Int32) ≤ v from fun hh => by rw [Int32.le_iff_toInt_le] at hh; rw [Int32.lt_iff_toInt_lt] at h3; omega)]
          exact q.ref h
        · rw [if_neg h3] at q
          obtain ⟨c, hc, rfl⟩ := nI_of h3
          rw [if_pos (nI0_le hc)]
          refine ⟨by omega, ?_⟩
          by_cases h5 : c ≤ A.2.1
          · rw [if_neg (show ¬ nI A.2.1 < nI c by rw [ltNN (by omega) hc]; omega), nI_clamp hc] at q
            rw [if_pos (show nI c ≤ nI A.2.1 by rw [leNN hc (by omega)]; exact h5)]
            refine ⟨by omega, fun I1 e1 => ?_⟩
            refine lp2 (fun n (u1_ : Nat) (u2_ : MI) => f_Model_row_L90 (nI p) (nI i) (nI c) _ n (nI u1_) u2_ J) (fun u1_ u2_ => u1_ ≤ c ∧ (∀ j, j ≠ 189 → j ≠ 190 → u2_ j = I1 j) ∧ (∀ j, u2_ 189 j = if 4 * (14 * p + i) ≤ j ∧ j < 4 * (14 * p + i) + u1_ then -1 else I1 189 j) ∧ (∀ j, u2_ 190 j = if 4 * (14 * p + i) ≤ j ∧ j < 4 * (14 * p + i) + u1_ then 0 else I1 190 j)) (fun u1_ u2_ => 5 - u1_) ?_ 0 I1 ⟨by omega, fun _ _ _ => rfl, fun j => by rw [if_neg (by omega)], fun j => by rw [if_neg (by omega)]⟩
            rintro n a I2 ⟨b1, b2, b3, b4⟩ ih
            unfold f_Model_row_L90
            by_cases hac : a = c
            · subst hac
              rw [if_pos (show nI a ≤ nI a by rw [leNN hc hc]; omega)]
              have hI : ∀ j, j ≠ 188 → j ≠ 189 → j ≠ 190 → I2 j = I j := fun j u1 u2 u3 => by rw [b2 j u2 u3, e1, sI_n _ _ u1]
              have h4 : ∀ j, I2 188 j = if j = 14 * p + i then nI a else I 188 j := fun j => by rw [b2 188 (by omega) (by omega), e1, sI_s, upd_at]
              rw [e1, sI_n _ _ (by omega)] at b3 b4
              refine q.don ⟨fun j hj => hI j (by omega) (by omega) (by omega), fun _ _ => rfl⟩ (h.mach hp ht (fun j hj => hI j (by omega) (by omega) (by omega)) (fun j hj => ⟨by rw [hI 187 (by omega) (by omega) (by omega)], by rw [h4, if_neg (by omega)]⟩) (fun j hj => ⟨by rw [b3, if_neg (by omega)], by rw [b4, if_neg (by omega)]⟩) rfl (g2.set g3 hi ⟨by rw [hI 184 (by omega) (by omega) (by omega)], by rw [hI 185 (by omega) (by omega) (by omega)], by rw [hI 186 (by omega) (by omega) (by omega)]⟩ (fun j hj => ⟨by rw [hI 187 (by omega) (by omega) (by omega)], by rw [h4, if_neg hj]⟩) (fun j hj => ⟨by rw [b3, if_neg (by omega)], by rw [b4, if_neg (by omega)]⟩) ⟨by rw [hI 187 (by omega) (by omega) (by omega)]; exact r1, (fun hh => by cases hh), fun r hr => ?_⟩) (setQ_VA g3 (VR_rep hvr.1 h2 h5)))
              cases hr
              refine ⟨by rw [h4, if_pos rfl]; simp, fun a y hy => ?_⟩
              obtain ⟨ha, rfl⟩ := rep_get hy
              exact ⟨by rw [b3, if_pos (by omega)]; rfl, fun _ => by rw [b4, if_pos (by omega)]; rfl⟩
            · rw [if_neg (show ¬ nI c ≤ nI a by rw [leNN hc (by omega)]; omega), spotN]
              refine ⟨(vpN (by omega)).mpr (by omega), fun I3 e3 => ?_⟩
              rw [spotN]
              refine ⟨(vpN (by omega)).mpr (by omega), fun I4 e4 t et => ?_⟩
              rw [et, nI_1]
              rw [nI_clamp (by omega)] at e3 e4
              refine ih (a + 1) I4 ⟨by omega, fun j u1 u2 => by rw [e4, sI_n _ _ u2, e3, sI_n _ _ u1, b2 j u1 u2], fun j => ?_, fun j => ?_⟩ (by omega)
              · rw [e4, sI_n _ _ (by omega), e3, sI_s, upd_at, b3 j]
                (repeat' split) <;> first | rfl | (exfalso; omega)
              · rw [e4, sI_s, upd_at, e3, sI_n _ _ (by omega), b4 j]
                (repeat' split) <;> first | rfl | (exfalso; omega)
          · rw [if_pos (show nI A.2.1 < nI c by rw [ltNN (by omega) hc]; omega)] at q
            rw [if_neg (show ¬ nI c ≤ nI A.2.1 by rw [leNN hc (by omega)]; exact h5)]
            exact q.ref h
      · rw [ei] at q
        rw [m_isStB (by omega) g2.2.1 hb, if_pos rfl]
        exact q.ref h
  · rw [e] at q
    rw [if_neg e0, M_noM h]
    exact q.ref h
