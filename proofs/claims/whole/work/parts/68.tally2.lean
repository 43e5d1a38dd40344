theorem Ways.kp {J J' : MJ} {A : AM} {v n m : Nat} (h : Ways J A v n) (hv : VA A) (hn : n < m) (e : ∀ k, k < m * 56 → J' 24 k = J 24 k) : Ways J' A v n := by
  intro q hq
  have h14 : q.1 < 14 := by have := hv.2.2.2.2.1; have := hq.1; omega
  have := hq.2.1
  rw [e _ (by omega)]
  exact h q hq
theorem s_fillN {o v m : Nat} {A : AM} {I : MI} {J : MJ} {Q : MI → MJ → Prop} (hA : RepC I o A) (hv : VA A) (hm : m < 30) (hw : Ways J A v m) (hs : Steps I A) (q : ∀ J', (∀ i, i ≠ 24 → J' i = J i) → (∀ k, k < (m + 1) * 56 → J' 24 k = J 24 k) → Ways J' A v (m + 1) → Q I J') : f_Tally_fillNext o (nI (m + 1)) I J Q := by
  unfold f_Tally_fillNext
  rw [s_step hA hv.1]
  have hn14 := hv.2.2.2.2.1
  have hk4 := hv.2.2.1
  refine lp2 (fun n (j : Nat) (J1 : MJ) => f_Tally_fillNext_L8 o (nI (m + 1)) (nI (if A.1 = 3 then 1 else 4)) _ n (nI j) I J1) (fun j J1 => j ≤ aN A * 4 ∧ (A.1 ≠ 3 → j % 4 = 0) ∧ (∀ i, i ≠ 24 → J1 i = J i) ∧ (∀ k, k < (m + 1) * 56 → J1 24 k = J 24 k) ∧ (∀ q, okS A q → q.1 * 4 + q.2 < j → J1 24 ((m + 1) * 56 + (q.1 * 4 + q.2)) = lN (tl A v (m + 1) (some q)))) (fun j _ => aN A * 4 - j) ?_ 0 J ⟨Nat.zero_le _, fun _ => rfl, fun _ _ => rfl, fun _ _ => rfl, fun q _ hh => absurd hh (Nat.not_lt_zero _)⟩
  rintro n j J1 ⟨b1, b2, b3, b5, b4⟩ ih
  have hw1 : Ways J1 A v m := hw.kp hv (Nat.lt_succ_self m) b5
  unfold f_Tally_fillNext_L8
  rw [hA.2.1, l4, pk_mul]
  by_cases e : j = aN A * 4
  · rw [if_pos (show nI (aN A * 4) ≤ nI j by rw [e, leNN (by omega) (by omega)]; omega)]
    exact q J1 b3 b5 (fun q hq => b4 q hq (by have := hq.1; have := hq.2.1; omega))
  · rw [if_neg (show ¬ nI (aN A * 4) ≤ nI j by rw [leNN (by omega) (by omega)]; omega)]
    obtain ⟨o1, o2⟩ := spot_ok (A := A) (j := j) (by omega) b2
    refine lp2 (fun n (z : Nat) (a : Nat) => f_Tally_fillNext_L25 o (nI (m + 1)) (nI j) _ n (lN z) (nI a) I J1) (fun z a => a ≤ A.2.1 ∧ z = sm (fun b => tl A v m (dl A (j / 4, j % 4) b)) a) (fun _ a => 4 - a) ?_ 0 0 ⟨Nat.zero_le _, rfl⟩
    rintro n2 z a ⟨c1, c2⟩ ih2
    unfold f_Tally_fillNext_L25
    rw [hA.2.2.1]
    by_cases ea : a = A.2.1
    · rw [if_pos (show nI A.2.1 ≤ nI a by rw [ea, leNN (by omega) (by omega)]; omega), l56, pk_mul, nI_add, vpN (by omega), nI_clamp (by omega)]
      refine ⟨by omega, fun J2 e2 t et => ?_⟩
      rw [et, nI_add]
      have hz : z = tl A v (m + 1) (some (j / 4, j % 4)) := by
        rw [tl_s, c2, ea]
        exact (sm_z 4 hk4 (fun a ha => by rw [dl_k hv ha, tl_none])).symm
      have hst : (A.1 = 3 ∧ (if A.1 = 3 then 1 else 4) = 1) ∨ (A.1 ≠ 3 ∧ (if A.1 = 3 then 1 else 4) = 4) := by
        by_cases h3 : A.1 = 3
        · exact Or.inl ⟨h3, if_pos h3⟩
        · exact Or.inr ⟨h3, if_neg h3⟩
      refine ih (j + (if A.1 = 3 then 1 else 4)) J2 ⟨?_, ?_, fun i hi => by rw [e2, sJ_at, if_neg hi]; exact b3 i hi, fun k hk => by rw [e2, sJ_at, if_pos rfl, updL_at, if_neg (by omega)]; exact b5 k hk, fun q hq hlt => ?_⟩ ?_
      · rcases hst with ⟨h3, e⟩ | ⟨h3, e⟩ <;> rw [e]
        · omega
        · have := b2 h3; omega
      · intro h3
        rcases hst with ⟨h3', e⟩ | ⟨_, e⟩
        · exact absurd h3' h3
        · have := b2 h3; rw [e]; omega
      · rw [e2, sJ_at, if_pos rfl, updL_at]
        by_cases hc : q.1 * 4 + q.2 < j
        · rw [if_neg (by omega)]; exact b4 q hq hc
        · have hqe : q = (j / 4, j % 4) := by
            refine code_inj hq.2.1 o1.2.1 ?_
            rw [o2]
            rcases hst with ⟨h3, e⟩ | ⟨h3, e⟩
            · rw [e] at hlt; omega
            · rw [e] at hlt
              have := b2 h3
              have := hq.2.2 h3
              omega
          subst hqe
          simp only
          rw [o2, if_pos rfl, hz]
      · rcases hst with ⟨h3, e⟩ | ⟨h3, e⟩ <;> rw [e] <;> omega
    · have hst := hs (j / 4, j % 4) a o1 (by omega)
      simp only at hst
      rw [o2] at hst
      have ok1 : okSo A (dl A (j / 4, j % 4) a) := fun t ht => okS_dl hv o1 ht
      rw [if_neg (show ¬ nI A.2.1 ≤ nI a by rw [leNN (by omega) (by omega)]; omega), l4, pk_mul, nI_add, vpN (by omega), nI_clamp (by omega), hst, nI_pred, s_ways hv hw1 (by omega) ok1]
      refine ⟨by omega, fun t et u eu => ?_⟩
      rw [et, eu, lN_add, nI_1]
      exact ih2 (z + tl A v m (dl A (j / 4, j % 4) a)) (a + 1) ⟨by omega, by rw [c2]; rfl⟩ (by omega)
/-- the tables up to a length -/
def WaysL (J : MJ) (A : AM) (v m : Nat) : Prop := ∀ n, n ≤ m → Ways J A v n
theorem s_fillL {o v m : Nat} {A : AM} {I : MI} {J : MJ} {Q : MI → MJ → Prop} (hA : RepC I o A) (hv : VA A) (hm : m < 30) (hw : WaysL J A v m) (hs : Steps I A) (q : ∀ J', (∀ i, i ≠ 24 → J' i = J i) → WaysL J' A v (m + 1) → Q I J') : f_Tally_fillNext o (nI (m + 1)) I J Q := by
  refine s_fillN hA hv hm (hw m (Nat.le_refl _)) hs (fun J' e1 e2 e3 => q J' e1 (fun n hn => ?_))
  by_cases h : n = m + 1
  · rw [h]; exact e3
  · exact (hw n (by omega)).kp hv (by omega) e2
noncomputable section
def opCount (x v n : Int32) (σ : SG) : Int64 := match maC σ x with
  | none => -1
  | some A => match idx 8 v, idx 31 n with
    | some v, some n => lN (tl A v n (some (0, 0)))
    | _, _ => -1
end
theorem WaysL0 {J : MJ} {A : AM} {v : Nat} (h : Ways J A v 0) : WaysL J A v 0 := fun n hn => by
  have : n = 0 := by omega
  rw [this]; exact h
theorem S_count {x v n : Int32} {I : MI} {J : MJ} {σ : SG} {Q : Int64 → MI → MJ → Prop} (h : AbsS I J σ) (q : KSg I J (opCount x v n σ, σ) Q) : f_School_count x v n I J Q := by
  unfold f_School_count
  rw [s_machAt h]
  unfold opCount at q
  rcases maC_cases σ x with ⟨p, A, hp, rfl, ht, e, e0⟩ | ⟨e, e0⟩
  · rw [e] at q
    rw [if_pos e0, nI_clamp (by omega)]
    simp only at q ⊢
    have hP := (h.1 p hp).1
    rw [ht] at hP
    obtain ⟨g1, g2, g3⟩ := hP
    refine ⟨okM_p hp, ?_⟩
    rcases idx_cases (N := 8) (by decide) v with ⟨v', hv', rfl, ev⟩ | ⟨hb, ev⟩
    · rw [s_isAnN hv', if_neg (by decide)]
      rcases idx_cases (N := 31) (by decide) n with ⟨m, hm, rfl, en⟩ | ⟨hb, en⟩
      · rw [ev, en] at q
        rw [if_neg (nI0_lt (by omega)), if_pos (show nI m ≤ 30 by rw [l30, leNN (by omega) (by decide)]; omega)]
        unfold f_Tally_wordsOfLength
        refine s_fill1 (by omega) g2 g3 (by omega) (fun I1 J1 t1 w1 s1 => ?_)
        have hA1 := t1.rep (by omega) g2
        refine lp2 (fun n (k : Nat) (J2 : MJ) => f_Tally_wordsOfLength_L9 (1 + 64 + 7 * p + 1) (nI m) _ n (nI (k + 1)) I1 J2) (fun k J2 => k ≤ m ∧ TS I I1 J J2 ∧ WaysL J2 A v' k) (fun k _ => m - k) ?_ 0 J1 ⟨Nat.zero_le _, t1, WaysL0 w1⟩
        rintro n2 k J2 ⟨b1, b2, b3⟩ ih
        unfold f_Tally_wordsOfLength_L9
        by_cases ek : k = m
        · rw [if_pos (show nI m < nI (k + 1) by rw [ltNN (by omega) (by omega)]; omega)]
          have := @s_ways A v' m (some (0, 0)) I1 J2 (fun r I J => Q r I J) g3 (b3 m (by omega)) (by omega) (okSo_0 g3)
          rw [show enP (some (0, 0)) = 0 from rfl] at this
          rw [this]
          exact q I1 J2 b2.fr (b2.abs h)
        · rw [if_neg (show ¬ nI m < nI (k + 1) by rw [ltNN (by omega) (by omega)]; omega)]
          refine s_fillL hA1 g3 (by omega) b3 s1 (fun J3 e3 w3 t et => ?_)
          rw [et, nI_1]
          exact ih (k + 1) J3 ⟨by omega, b2.tr ⟨fun _ _ => rfl, e3⟩, w3⟩ (by omega)
      · rw [ev, en] at q
        have q' := q I J FrS.rf h
        by_cases hn : n < 0
        · rw [if_pos hn]; exact q'
        · rcases hb with hb | hb
          · exact absurd hb hn
          · obtain ⟨m, hm, rfl⟩ := nI_of hn
            rw [leNN (by decide) hm] at hb
            rw [if_neg hn, if_neg (show ¬ nI m ≤ 30 by rw [l30, leNN hm (by decide)]; omega)]
            exact q'
    · rw [s_isAnB hb, if_pos rfl]
      rw [ev] at q
      exact q I J FrS.rf h
  · rw [e] at q
    rw [if_neg e0]
    exact q I J FrS.rf h
