theorem M_copy {x s i t n : Int32} {I : MI} {J : MJ} {σ : SG} {Q : Int32 → MI → MJ → Prop} (h : AbsM I J σ) (q : KM I J (opCopy x s i t n σ) Q) : f_Model_copy x s i t n I J Q := by
  unfold f_Model_copy
  rw [M_noM h]
  rcases maC_cases σ x with ⟨p, A, hp, rfl, ht, e, e0⟩ | ⟨e, e0⟩
  · have hP := (h.1 p hp).1
    rw [ht] at hP
    obtain ⟨g1, g2, g3⟩ := hP
    rw [e0, if_pos rfl]
    have bad : ∀ v, opCopy (nI p) s i t n σ = ref v σ → f_Model_refuse v I J (fun r58 I58 J58 => Q r58 I58 J58) := fun v ho => by
      rw [ho] at q
      exact q.ref h
    unfold f_Model_copy_b37 f_Model_copy_b62 f_Model_copy_b123
    rcases idx_cases g3.n31 s with ⟨s', hs, rfl, es⟩ | ⟨hb, es⟩
    · rw [m_isStN (by omega) g2.2.1 g3.n31 hs, if_neg (by decide)]
      rcases idx_cases g3.n31 t with ⟨t', ht', rfl, et⟩ | ⟨hb, et⟩
      · have hs14 : s' < 14 := by have := g3.2.2.2.2.1; omega
        have ht14 : t' < 14 := by have := g3.2.2.2.2.1; omega
        obtain ⟨zs, hzs⟩ := VA.get hs
        obtain ⟨zt, hzt⟩ := VA.get ht'
        obtain ⟨a1, a2, a3⟩ := g2.2.2.2 s' zs hzs
        obtain ⟨b1, b2, b3⟩ := g2.2.2.2 t' zt hzt
        rw [m_isStN (by omega) g2.2.1 g3.n31 ht', if_neg (by decide), m_hasRw (by omega) g2 g3 hzs]
        cases hrs : zs.1 with
        | none => rw [if_pos (by simp)]; exact bad 1 (opCopy_mis e hzs hzt (Or.inl hrs) es et)
        | some rs =>
          have hls := (g3.row4 hzs).2 rs hrs
          rw [if_neg isS1, m_hasRw (by omega) g2 g3 hzt]
          cases hrt : zt.1 with
          | none => rw [if_pos (by simp)]; exact bad 1 (opCopy_mis e hzs hzt (Or.inr hrt) es et)
          | some rt =>
            have hlt := (g3.row4 hzt).2 rt hrt
            rw [if_neg isS1]
            have ok := @opCopy_ok (nI p) i n σ A s' t' 0 0 zs zt rs rt e hzs hzt hrs hrt es et
            by_cases hi : i < 0
            · rw [if_pos hi]; exact bad 2 (by rw [ok, if_pos (Or.inl hi)])
            · rw [if_neg hi]
              by_cases hn : n < 0
              · rw [if_pos hn]; exact bad 2 (by rw [ok, if_pos (Or.inr (Or.inl hn))])
              · rw [if_neg hn]
                obtain ⟨i', hi', rfl⟩ := nI_of hi
                obtain ⟨n', hn', rfl⟩ := nI_of hn
                rw [nI_clamp hi', nI_clamp hn'] at ok
                by_cases hi4 : 4 < i'
                · rw [if_pos (show (4 : Int32) < nI i' by rw [l4, ltNN (by decide) hi']; exact hi4)]
                  exact bad 2 (by rw [ok, if_pos (Or.inr (Or.inr (Or.inr (by omega))))])
                · rw [if_neg (show ¬ (4 : Int32) < nI i' by rw [l4, ltNN (by decide) hi']; exact hi4)]
                  by_cases hn4 : 4 < n'
                  · rw [if_pos (show (4 : Int32) < nI n' by rw [l4, ltNN (by decide) hn']; exact hn4)]
                    exact bad 2 (by rw [ok, if_pos (Or.inr (Or.inr (Or.inl (by omega))))])
                  · rw [if_neg (show ¬ (4 : Int32) < nI n' by rw [l4, ltNN (by decide) hn']; exact hn4), l14, pk_mul, nI_add, nI_add, nI_add, nI_clamp (by omega), nI_clamp (by omega), vpN (by omega), vpN (by omega), (a3 rs hrs).1, (b3 rt hrt).1]
                    refine ⟨by omega, ?_⟩
                    by_cases h4 : rs.length < i' + n'
                    · rw [if_pos (show nI rs.length < nI (i' + n') by rw [ltNN (by omega) (by omega)]; exact h4)]
                      exact bad 2 (by rw [ok, if_pos (Or.inr (Or.inr (Or.inr h4)))])
                    · rw [if_neg (show ¬ nI rs.length < nI (i' + n') by rw [ltNN (by omega) (by omega)]; exact h4)]
                      refine ⟨by omega, ?_⟩
                      by_cases h3 : n' ≤ rt.length
                      · rw [if_pos (show nI n' ≤ nI rt.length by rw [leNN hn' (by omega)]; exact h3)]
                        rw [ok, if_neg (by rintro (u | u | u | u); exact hi u; exact hn u; omega; omega)] at q
                        unfold setA at q
                        rw [nI_clamp (by omega)] at q
                        refine lp2 (fun n (u1_ : Nat) (u2_ : MI) => f_Model_copy_L132 (nI p) (nI s') (nI i') (nI n') _ n (nI u1_) u2_ J) (fun u1_ u2_ => u1_ ≤ n' ∧ (∀ j, j ≠ 198 → j ≠ 199 → u2_ j = I j) ∧ (∀ a, a < u1_ → u2_ 198 a = I 189 (4 * (14 * p + s') + (i' + a)) ∧ u2_ 199 a = I 190 (4 * (14 * p + s') + (i' + a)))) (fun u1_ u2_ => 5 - u1_) ?_ 0 I ⟨by omega, fun _ _ _ => rfl, fun a ha => absurd ha (by simp)⟩
                        rintro n a I2 ⟨c1, c2, c3⟩ ih
                        unfold f_Model_copy_L132
                        by_cases hac : a = n'
                        · subst hac
                          rw [if_pos (show nI a ≤ nI a by rw [leNN hn' hn']; omega)]
                          refine lp2 (fun n (u1_ : Nat) (u2_ : MI) => f_Model_copy_L190 (nI p) (nI t') (nI a) _ n (nI u1_) u2_ J) (fun u1_ u2_ => u1_ ≤ a ∧ (∀ j, j ≠ 189 → j ≠ 190 → u2_ j = I2 j) ∧ (∀ j, u2_ 189 j = if 4 * (14 * p + t') ≤ j ∧ j < 4 * (14 * p + t') + u1_ then I 189 (4 * (14 * p + s') + (i' + (j - 4 * (14 * p + t')))) else I 189 j) ∧ (∀ j, u2_ 190 j = if 4 * (14 * p + t') ≤ j ∧ j < 4 * (14 * p + t') + u1_ then I 190 (4 * (14 * p + s') + (i' + (j - 4 * (14 * p + t')))) else I 190 j)) (fun u1_ u2_ => 5 - u1_) ?_ 0 I2 ⟨by omega, fun _ _ _ => rfl, fun j => by rw [if_neg (by omega), c2 189 (by omega) (by omega)], fun j => by rw [if_neg (by omega), c2 190 (by omega) (by omega)]⟩
                          rintro m b I3 ⟨d1, d2, d3, d4⟩ ih2
                          unfold f_Model_copy_L190
                          by_cases hba : b = a
                          · subst hba
                            rw [if_pos (show nI b ≤ nI b by rw [leNN hn' hn']; omega)]
                            have hI : ∀ j, j ≠ 189 → j ≠ 190 → j ≠ 198 → j ≠ 199 → I3 j = I j := fun j u1 u2 u3 u4 => by rw [d2 j u1 u2, c2 j u3 u4]
                            obtain ⟨I4, hI4⟩ : ∃ I4 : MI, ∀ j, I4 j = if j = 198 ∨ j = 199 then I j else I3 j := ⟨_, fun _ => rfl⟩
                            have hA' : AbsM I4 J (setF (setD σ p (some (.inl (setQ A t' (some (cpy rs rt i' b), zt.2))))) p (σ.2.1 p)) := by
                              have w1 : ∀ j, j ≠ 189 → j ≠ 190 → I4 j = I j := fun j u1 u2 => by
                                rw [hI4]
                                split
                                · rfl
                                · exact hI j u1 u2 (by omega) (by omega)
                              have w2 : I4 189 = I3 189 := by rw [hI4, if_neg (by decide)]
                              have w3 : I4 190 = I3 190 := by rw [hI4, if_neg (by decide)]
                              refine h.mach hp ht (fun j hj => w1 j (by omega) (by omega)) (fun j hj => ⟨by rw [w1 187 (by omega) (by omega)], by rw [w1 188 (by omega) (by omega)]⟩) (fun j hj => ⟨by rw [w2, d3, if_neg (by omega)], by rw [w3, d4, if_neg (by omega)]⟩) rfl (g2.set g3 ht' ⟨by rw [w1 184 (by omega) (by omega)], by rw [w1 185 (by omega) (by omega)], by rw [w1 186 (by omega) (by omega)]⟩ (fun j hj => ⟨by rw [w1 187 (by omega) (by omega)], by rw [w1 188 (by omega) (by omega)]⟩) (fun j hj => ⟨by rw [w2, d3, if_neg (by omega)], by rw [w3, d4, if_neg (by omega)]⟩) ⟨by rw [w1 187 (by omega) (by omega)]; exact b1, (fun hh => by cases hh), fun r hr => ?_⟩) (setQ_VA g3 (cpy_VR g3 hzs hzt hrs hrt h3 (by omega)))
                              cases hr
                              refine ⟨by rw [w1 188 (by omega) (by omega), cpy_len h3 (by omega)]; exact (b3 rt hrt).1, fun a y hy => ?_⟩
                              rcases cpy_get h3 (by omega) hy with ⟨ha, hy⟩ | ⟨ha, hy⟩
                              · have k := (a3 rs hrs).2 _ _ hy
                                rw [w2, w3, d3, d4, if_pos (by omega), if_pos (by omega), show i' + (4 * (14 * p + t') + a - 4 * (14 * p + t')) = i' + a by omega]
                                exact k
                              · have k := (b3 rt hrt).2 _ _ hy
                                rw [w2, w3, d3, d4, if_neg (by omega), if_neg (by omega)]
                                exact k
                            exact q.don ⟨fun j hj => hI j (by omega) (by omega) (by omega) (by omega), fun _ _ => rfl⟩ (hA'.scr (fun k hk => by rw [hI4, if_neg (by decide)]) (fun j hj => by rw [hI4, if_neg (by omega)]) (fun m _ => MEq.of (fun j u v => by rw [hI4, if_neg (by omega)])) ⟨rfl, rfl, rfl, rfl, rfl⟩)
                          · have hk := c3 b (by omega)
                            rw [if_neg (show ¬ nI a ≤ nI b by rw [leNN hn' (by omega)]; omega), spotN, vpN (by omega), vpN (by omega), nI_clamp (by omega), nI_clamp (by omega)]
                            refine ⟨by omega, by omega, fun I4 e4 => ?_⟩
                            rw [spotN, vpN (by omega), nI_clamp (by omega)]
                            refine ⟨by omega, by omega, fun I5 e5 t et => ?_⟩
                            rw [et, nI_1]
                            refine ih2 (b + 1) I5 ⟨by omega, fun j u1 u2 => by rw [e5, sI_n _ _ u2, e4, sI_n _ _ u1, d2 j u1 u2], fun j => ?_, fun j => ?_⟩ (by omega)
                            · rw [e5, sI_n _ _ (by omega), e4, sI_s, upd_at, d3 j, d2 198 (by omega) (by omega), hk.1]
                              (repeat' split) <;> first | rfl | (exfalso; omega) | (congr 1; omega)
                            · rw [e5, sI_s, upd_at, e4, sI_n _ _ (by omega), sI_n _ _ (by omega), d4 j, d2 199 (by omega) (by omega), hk.2]
                              (repeat' split) <;> first | rfl | (exfalso; omega) | (congr 1; omega)
                        · rw [if_neg (show ¬ nI n' ≤ nI a by rw [leNN hn' (by omega)]; omega), nI_add, spotN, vpN (by omega), vpN (by omega), nI_clamp (by omega), nI_clamp (by omega)]
                          refine ⟨by omega, by omega, fun I4 e4 => ?_⟩
                          rw [spotN, vpN (by omega), nI_clamp (by omega)]
                          refine ⟨by omega, by omega, fun I5 e5 t et => ?_⟩
                          rw [et, nI_1]
                          refine ih (a + 1) I5 ⟨by omega, fun j u1 u2 => by rw [e5, sI_n _ _ u2, e4, sI_n _ _ u1, c2 j u1 u2], fun b hb => ?_⟩ (by omega)
                          rw [e5, sI_n _ _ (by omega), e4, sI_s, upd_at, sI_s, upd_at, sI_n _ _ (by omega), sI_n _ _ (by omega), c2 189 (by omega) (by omega), c2 190 (by omega) (by omega)]
                          by_cases hba : b = a
                          · rw [if_pos hba, if_pos hba, hba]; exact ⟨rfl, rfl⟩
                          · rw [if_neg hba, if_neg hba]; exact c3 b (by omega)
                      · rw [if_neg (show ¬ nI n' ≤ nI rt.length by rw [leNN hn' (by omega)]; exact h3)]
                        exact bad 2 (by rw [ok, if_pos (Or.inr (Or.inr (Or.inl (by omega))))])
      · rw [m_isStB (by omega) g2.2.1 hb, if_pos rfl]
        exact bad 2 (opCopy_bad e (Or.inr et))
    · rw [m_isStB (by omega) g2.2.1 hb, if_pos rfl]
      exact bad 2 (opCopy_bad e (Or.inl es))
  · unfold opCopy at q
    rw [e] at q
    rw [if_neg e0, M_noM h]
    exact q.ref h
