def rst (f : Nat → Nat) : Nat → Nat → Nat
  | 0, a => f a
  | r + 1, a => f a + rst f r (a + 1)
theorem pkA_lt {f : Nat → Nat} : ∀ r a l, l < rst f r a → (pkA f r a l).2 < f (pkA f r a l).1
  | 0, a, l, h => h
  | r + 1, a, l, h => by
    unfold pkA
    unfold rst at h
    split
    · assumption
    · exact pkA_lt r (a + 1) (l - f a) (by omega)
theorem rst_tl {A : AM} {v n : Nat} {q : Nat × Nat} : rst (fun a => tl A v n (dl A q a)) 3 0 = tl A v (n + 1) (some q) := by
  show tl A v n (dl A q 0) + (tl A v n (dl A q 1) + (tl A v n (dl A q 2) + tl A v n (dl A q 3))) = _
  simp only [tl]
  omega
theorem m_found {m v L l : Nat} {A : AM} {I : MI} {J : MJ} {Q : Int64 → MI → MJ → Prop} (hm : m < 20) (hA : RepM I m A) (hv : VA A) (hL : L ≤ 30) (hw : ∀ n, n ≤ 30 → TlM J A v n) (hl : l < tl A v L (some (0, 0))) (q : ∀ I', Sc I I' → Q (lN (num (spl A v L (some (0, 0)) l))) I' J) : f_Model_found (nI m) (nI L) (lN l) I J Q := by
  unfold f_Model_found
  rw [forall_eq]
  have hn14 := hv.2.2.2.2.1
  refine lp5 (fun n (acc : List Nat) (l : Nat) (x : Nat × Nat) (r : Nat) (I1 : MI) => f_Model_found_L17 (nI m) _ n (lN (num acc)) (lN l) (nI x.1) (nI x.2) (nI r - 1) I1 J) (fun acc l' x r I1 => r ≤ L ∧ l' < tl A v r (some x) ∧ x.1 < aN A ∧ x.2 < 4 ∧ Sc I I1 ∧ spl A v L (some (0, 0)) l = acc ++ spl A v r (some x) l') (fun _ _ _ r _ => r) ?_ [] l (0, 0) L I ⟨Nat.le_refl _, hl, hv.n1, by decide, Sc.rf, rfl⟩
  rintro n acc l' x r I1 ⟨b1, b2, b3, b5, b6, b4⟩ ih
  unfold f_Model_found_L17
  cases r with
  | zero =>
    rw [if_pos (by decide)]
    have q1 := q I1 b6
    rw [b4] at q1
    simp only [spl, List.append_nil] at q1
    exact q1
  | succ r =>
    have t60 := tl_60 A v (show r + 1 ≤ 30 by omega) (some x)
    have u60 := fun a => tl_60 A v (show r ≤ 30 by omega) (dl A x a)
    rw [nI_pred, if_neg (nI0_lt (by omega))]
    have hsp : spl A v (r + 1) (some x) l' = (pkA (fun a => tl A v r (dl A x a)) 3 0 l').1 :: spl A v r (dl A x (pkA (fun a => tl A v r (dl A x a)) 3 0 l').1) (pkA (fun a => tl A v r (dl A x a)) 3 0 l').2 := rfl
    refine lp4 (fun n (l2 : Nat) (by_ : Option Nat) (a : Nat) (I2 : MI) => f_Model_found_L28 (nI m) (nI x.1) (nI x.2) (nI r) _ n (lN l2) (enO by_) (nI a) I2 J) (fun l2 by_ a I2 => Sc I I2 ∧ l2 ≤ 2 ^ 60 ∧ a ≤ 4 ∧ (by_ = none → a ≤ 3 ∧ l2 < rst (fun a => tl A v r (dl A x a)) (3 - a) a ∧ pkA (fun a => tl A v r (dl A x a)) 3 0 l' = pkA (fun a => tl A v r (dl A x a)) (3 - a) a l2) ∧ (∀ b, by_ = some b → b < 4 ∧ pkA (fun a => tl A v r (dl A x a)) 3 0 l' = (b, l2) ∧ ∃ t, dl A x b = some t ∧ atC I2 t)) (fun _ by_ a _ => if by_ = none then 5 - a else 0) ?_ l' none 0 I1 ⟨b6, by omega, by decide, fun _ => ⟨by decide, by rw [rst_tl]; exact b2, rfl⟩, fun b hb => by cases hb⟩
    rintro n2 l2 by_ a I2 ⟨c1, c2, c5, c3, c4⟩ ih2
    unfold f_Model_found_L28
    cases by_ with
    | some b =>
      obtain ⟨d1, d2, t, d3, d4⟩ := c4 b rfl
      obtain ⟨k1, k2, _⟩ := dl_ok hv b5 d3
      have fin : f_Model_found_b130 (lN (num acc)) (lN l2) (nI r) (enO (some b)) (f_Model_found_L17 (nI m) (fun (z160_x5 : Int64) (I : MI) (J : MJ) => Q z160_x5 I J) n) I2 J := by
        unfold f_Model_found_b130
        rw [forall_eq, forall_eq, d4.1, d4.2, show enO (some b) = nI b from rfl, nI_l (by omega), show (4 : Int64) = lN 4 from rfl, lN_mul, lN_add, ← num_app, forall_eq, m1_add, forall_eq]
        have hlt := pkA_lt (f := fun a => tl A v r (dl A x a)) 3 0 l' (by rw [rst_tl]; exact b2)
        rw [d2] at hlt
        simp only at hlt
        rw [d3] at hlt
        refine ih (acc ++ [b]) l2 t r I2 ⟨by omega, hlt, k1, k2, c1, ?_⟩ (by omega)
        rw [b4, hsp, d2]
        simp only
        rw [d3]
        simp
      by_cases h4 : (4 : Int32) ≤ nI a
      · rw [if_pos h4]; exact fin
      · rw [if_neg h4, if_pos (show (0 : Int32) ≤ enO (some b) from nI0_le (by omega))]; exact fin
    | none =>
      obtain ⟨d1, d2, d3⟩ := c3 rfl
      rw [if_neg (show ¬ (4 : Int32) ≤ nI a by rw [l4, leNN (by decide) (by omega)]; omega), if_neg (show ¬ (0 : Int32) ≤ enO none by decide)]
      refine set1415 (J := J) (fun I3 e3 x1 x2 => ?_)
      have ha := u60 a
      have step : ∀ I4, Sc I I4 → (∀ t, dl A x a = some t → atC I4 t) → f_Model_found_b87 (lN l2) (nI a) (lN (tl A v r (dl A x a))) (f_Model_found_L28 (nI m) (nI x.1) (nI x.2) (nI r) (fun (z130_x7 : Int64) (z130_x12 : Int32) (I : MI) (J : MJ) => f_Model_found_b130 (lN (num acc)) z130_x7 (nI r) z130_x12 (f_Model_found_L17 (nI m) (fun (z160_x5 : Int64) (I : MI) (J : MJ) => Q z160_x5 I J) n) I J) n2) I4 J := by
        intro I4 e4 hat
        unfold f_Model_found_b87 f_Model_found_b103 f_Model_found_b121
        by_cases el : l2 < tl A v r (dl A x a)
        · rw [if_neg (by rw [lNle (by omega) (by omega)]; omega), if_neg (by rw [lNle (by omega) (by omega)]; omega), show (0 : Int64) = lN 0 from rfl, lN_sub (Nat.zero_le _), forall_eq, nI_1, forall_eq]
          refine ih2 l2 (some a) (a + 1) I4 ⟨e4, c2, by omega, (fun hh => by cases hh), fun b hb => ?_⟩ (by simp only [reduceCtorEq, if_true, if_false]; omega)
          cases hb
          refine ⟨by omega, ?_, ?_⟩
          · rw [d3]
            by_cases ea : a = 3
            · rw [ea]; rfl
            · rw [show 3 - a = (2 - a) + 1 by omega]
              unfold pkA
              rw [if_pos el]
          · cases hd : dl A x a with
            | none => rw [hd, tl_none] at el; exact absurd el (by omega)
            | some t => exact ⟨t, rfl, hat t hd⟩
        · have hne : a ≠ 3 := by
            intro ea
            rw [ea] at d2 el
            exact el d2
          have d2' : rst (fun a => tl A v r (dl A x a)) (3 - a) a = tl A v r (dl A x a) + rst (fun a => tl A v r (dl A x a)) (3 - (a + 1)) (a + 1) := by
            rw [show 3 - a = (3 - (a + 1)) + 1 by omega]
            rfl
          rw [if_pos (by rw [lNle (by omega) (by omega)]; omega), if_pos (by rw [lNle (by omega) (by omega)]; omega), lN_sub (by omega), forall_eq, nI_1, forall_eq]
          refine ih2 (l2 - tl A v r (dl A x a)) none (a + 1) I4 ⟨e4, by omega, by omega, fun _ => ⟨by omega, by omega, ?_⟩, (fun b hb => by cases hb)⟩ (by simp only [if_true]; omega)
          rw [d3, show 3 - a = (3 - (a + 1)) + 1 by omega]
          conv => lhs; unfold pkA
          rw [if_neg el]
      refine m_go (sc := x) hm ((c1.tr e3).rep hA) hv b3 b5 (by omega) ⟨x1, x2⟩ (fun hd => ?_) (fun t hd I4 e4 at4 => ?_)
      · rw [if_pos rfl]
        have := step I3 (c1.tr e3) (fun t ht => by rw [hd] at ht; cases ht)
        rw [hd, tl_none] at this
        exact this
      · obtain ⟨k1, k2, _⟩ := dl_ok hv b5 hd
        rw [if_neg (by decide), at4.1, at4.2, l56, l4, pk_mul, pk_mul, nI_add, nI_add, vpN (by omega), nI_clamp (by omega), hw r (by omega) t.1 t.2 k1 k2]
        refine ⟨by omega, ?_⟩
        have := step I4 ((c1.tr e3).tr e4) (fun t' ht => by rw [hd] at ht; cases ht; exact at4)
        rw [hd] at this
        exact this
theorem M_word {x v : Int32} {i : Int64} {I : MI} {J : MJ} {σ : SG} {Q : Int64 → MI → MJ → Prop} (h : AbsM I J σ) (q : KMg I J (opWord x v i σ, σ) Q) : f_Model_word x v i I J Q := by
  unfold f_Model_word
  rw [M_isM h]
  unfold opWord at q
  rcases maC_cases σ x with ⟨p, A, hp, rfl, ht, e, e0⟩ | ⟨e, e0⟩
  · rw [e] at q
    rw [if_pos e0, if_neg (by decide)]
    simp only at q
    have hP := (h.1 p hp).1
    rw [ht] at hP
    obtain ⟨g1, g2, g3⟩ := hP
    rcases idx_cases (N := 8) (by decide) v with ⟨v', hv', rfl, ev⟩ | ⟨hb, ev⟩
    · rw [if_neg (nI0_lt (by omega)), if_neg (show ¬ (7 : Int32) < nI v' by rw [l7, ltNN (by decide) (by omega)]; omega)]
      rw [ev] at q
      simp only at q
      rcases i64_cases i with hi | ⟨k, hk, rfl, ek, hn, h0⟩
      · rw [if_neg (i64_neg hi)]
        rw [if_pos hi] at q
        exact q I J FrM.rf h
      · rw [if_pos h0]
        rw [if_neg hn, ek] at q
        refine m_tails (by omega) g2 g3 (by omega) (fun I1 J1 e1 e2 e3 => ?_)
        have f0 : ∀ m, m ≤ 30 → J1 200 (56 * m) = lN (tl A v' m (some (0, 0))) := fun m hm => by
          have := e3 m hm 0 0 g3.n1 (by decide)
          rw [show 56 * m + 4 * 0 + 0 = 56 * m by omega] at this
          exact this
        refine lp2 (fun n (l : Nat) (m : Nat) => f_Model_word_L40 _ n (lN l) (nI m) I1 J1) (fun l m => m ≤ 31 ∧ l < 2 ^ 63 ∧ fLn (fun n => tl A v' n (some (0, 0))) 31 0 k = fLn (fun n => tl A v' n (some (0, 0))) (31 - m) m l) (fun _ m => 31 - m) ?_ k 0 ⟨by decide, hk, rfl⟩
        rintro n2 l m ⟨b1, b2, b5⟩ ih
        unfold f_Model_word_L40 f_Model_word_b84
        by_cases em : m = 31
        · rw [if_pos (show (30 : Int32) < nI m by rw [em]; decide), if_neg (show ¬ nI m ≤ 30 by rw [em]; decide)]
          rw [b5, em] at q
          exact q I1 J1 (FrM.s200 e1 e2) (h.s200 e1 e2)
        · have t60 := tl_60 A v' (show m ≤ 30 by omega) (some (0, 0))
          have b6 : fLn (fun n => tl A v' n (some (0, 0))) (31 - m) m l = if l < tl A v' m (some (0, 0)) then some (m, l) else fLn (fun n => tl A v' n (some (0, 0))) (30 - m) (m + 1) (l - tl A v' m (some (0, 0))) := by
            rw [show 31 - m = (30 - m) + 1 by omega]
            rfl
          rw [b6] at b5
          rw [if_neg (show ¬ (30 : Int32) < nI m by rw [l30, ltNN (by decide) (by omega)]; omega), l56, pk_mul, vpN (by omega), nI_clamp (by omega), f0 m (by omega)]
          refine ⟨by omega, ?_⟩
          by_cases el : l < tl A v' m (some (0, 0))
          · rw [if_pos (by rw [lNlt b2 (by omega)]; exact el), if_pos (show nI m ≤ 30 by rw [l30, leNN (by omega) (by decide)]; omega)]
            rw [if_pos el] at b5
            rw [b5] at q
            exact m_found (by omega) (e1.rep g2) g3 (by omega) e3 el (fun I2 s2 => q I2 J1 (FrM.s200 (e1.tr s2) e2) (h.s200 (e1.tr s2) e2))
          · rw [if_neg (by rw [lNlt b2 (by omega)]; exact el), lN_sub (by omega), forall_eq, nI_1, forall_eq]
            rw [if_neg el] at b5
            exact ⟨by omega, ih _ (m + 1) ⟨by omega, by omega, by rw [b5]; congr 1; omega⟩ (by omega)⟩
    · rw [ev] at q
      have q' := q I J FrM.rf h
      by_cases hn : v < 0
      · rw [if_pos hn]; exact q'
      · rcases hb with hb | hb
        · exact absurd hb hn
        · obtain ⟨m, hm, rfl⟩ := nI_of hn
          rw [leNN (by decide) hm] at hb
          rw [if_neg hn, if_pos (show (7 : Int32) < nI m by rw [l7, ltNN (by decide) hm]; omega)]
          exact q'
  · rw [e] at q
    rw [if_neg e0, if_pos rfl]
    exact q I J FrM.rf h
