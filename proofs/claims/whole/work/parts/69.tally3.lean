/-! word -/
def fLn (f : Nat → Nat) : Nat → Nat → Nat → Option (Nat × Nat)
  | 0, _, _ => none
  | r + 1, n, l => if l < f n then some (n, l) else fLn f r (n + 1) (l - f n)
def pkA (f : Nat → Nat) : Nat → Nat → Nat → Nat × Nat
  | 0, a, l => (a, l)
  | r + 1, a, l => if l < f a then (a, l) else pkA f r (a + 1) (l - f a)
def spl (A : AM) (v : Nat) : Nat → Option (Nat × Nat) → Nat → List Nat
  | 0, _, _ => []
  | n + 1, x, l => (pkA (fun a => tl A v n (x.bind (fun q => dl A q a))) 3 0 l).1 :: spl A v n (x.bind (fun q => dl A q (pkA (fun a => tl A v n (x.bind (fun q => dl A q a))) 3 0 l).1)) (pkA (fun a => tl A v n (x.bind (fun q => dl A q a))) 3 0 l).2
noncomputable section
def opWord (x v : Int32) (i : Int64) (σ : SG) : Int64 := match maC σ x with
  | none => -1
  | some A => match idx 8 v with
    | none => -1
    | some v => if i < 0 then -1 else match fLn (fun n => tl A v n (some (0, 0))) 31 0 i.toInt.toNat with
      | none => -1
      | some q => lN (num (spl A v q.1 (some (0, 0)) q.2))
end
theorem pkA_b {f : Nat → Nat} : ∀ r a l, (pkA f r a l).1 ≤ a + r
  | 0, a, l => by simp [pkA]
  | r + 1, a, l => by
    unfold pkA
    split
    · simp
    · have := pkA_b (f := f) r (a + 1) (l - f a); omega
theorem lNlt {a b : Nat} (ha : a < 2 ^ 63) (hb : b < 2 ^ 63) : (lN a < lN b) = (a < b) := propext (pk_lLT ha hb)
theorem lNle {a b : Nat} (ha : a < 2 ^ 63) (hb : b < 2 ^ 63) : (lN a ≤ lN b) = (a ≤ b) := propext (pk_lLE ha hb)
theorem s_spelled {o v L l : Nat} {A : AM} {I : MI} {J : MJ} {Q : Int64 → MI → MJ → Prop} (hA : RepC I o A) (hv : VA A) (hL : L ≤ 30) (hw : WaysL J A v L) (hl : l < 2 ^ 63) (q : Q (lN (num (spl A v L (some (0, 0)) l))) I J) : f_Tally_spelled o (nI L) (lN l) I J Q := by
  unfold f_Tally_spelled
  rw [forall_eq]
  refine lp4 (fun n (acc : List Nat) (l : Nat) (x : Option (Nat × Nat)) (r : Nat) => f_Tally_spelled_L14 o _ n (lN (num acc)) (lN l) (enP x) (nI r - 1) I J) (fun acc l' x r => r ≤ L ∧ l' < 2 ^ 63 ∧ okSo A x ∧ spl A v L (some (0, 0)) l = acc ++ spl A v r x l') (fun _ _ _ r => r) ?_ [] l (some (0, 0)) L ⟨Nat.le_refl _, hl, okSo_0 hv, rfl⟩
  rintro n acc l' x r ⟨b1, b2, b3, b4⟩ ih
  unfold f_Tally_spelled_L14
  cases r with
  | zero =>
    rw [if_pos (by decide)]
    rw [b4] at q
    simp only [spl, List.append_nil] at q
    exact q
  | succ r =>
    have hwr := hw r (by omega)
    have ok := fun a => okSo_dl hv b3 a
    have t60 := fun a => tl_60 A v (show r ≤ 30 by omega) (x.bind (fun q => dl A q a))
    rw [nI_pred, if_neg (nI0_lt (by omega)), l0, s_nextO hA hv b3.p (by decide), s_ways hv hwr (by omega) (ok 0)]
    refine lp2 (fun n (l2 : Nat) (a : Nat) => f_Tally_spelled_L38 o (enP x) (nI r) _ n (lN l2) (nI a) (lN (tl A v r (x.bind (fun q => dl A q a)))) I J) (fun l2 a => a ≤ 3 ∧ l2 < 2 ^ 63 ∧ pkA (fun a => tl A v r (x.bind (fun q => dl A q a))) 3 0 l' = pkA (fun a => tl A v r (x.bind (fun q => dl A q a))) (3 - a) a l2) (fun _ a => 3 - a) ?_ l' 0 ⟨by decide, b2, rfl⟩
    rintro n2 l2 a ⟨c1, c2, c3⟩ ih2
    have := t60 a
    have fin : pkA (fun a => tl A v r (x.bind (fun q => dl A q a))) 3 0 l' = (a, l2) → f_Tally_spelled_b81 o (lN (num acc)) (lN l2) (enP x) (nI r) (nI a) (f_Tally_spelled_L14 o (fun (z109_x5 : Int64) (I : MI) (J : MJ) => Q z109_x5 I J) n) I J := by
      intro e
      unfold f_Tally_spelled_b81
      rw [forall_eq, s_nextO hA hv b3.p (by omega), m1_add, nI_l (by omega), show (4 : Int64) = lN 4 from rfl, lN_mul, lN_add, ← num_app, forall_eq]
      refine ih (acc ++ [a]) l2 (x.bind (fun q => dl A q a)) r ⟨by omega, c2, ok a, ?_⟩ (by omega)
      rw [b4]
      simp only [spl]
      rw [e]
      simp
    unfold f_Tally_spelled_L38
    by_cases ea : a = 3
    · rw [if_pos (show (3 : Int32) ≤ nI a by rw [ea]; decide)]
      refine fin ?_
      rw [c3, ea]
      rfl
    · rw [if_neg (show ¬ (3 : Int32) ≤ nI a by rw [l3, leNN (by decide) (by omega)]; omega)]
      by_cases el : l2 < tl A v r (x.bind (fun q => dl A q a))
      · rw [if_pos (by rw [lNlt c2 (by omega)]; exact el)]
        refine fin ?_
        rw [c3, show 3 - a = (2 - a) + 1 by omega]
        unfold pkA
        rw [if_pos el]
      · rw [if_neg (by rw [lNlt c2 (by omega)]; exact el), forall_eq, nI_1, forall_eq, s_nextO hA hv b3.p (by omega), s_ways hv hwr (by omega) (ok (a + 1)), lN_sub (by omega)]
        refine ih2 (l2 - tl A v r (x.bind (fun q => dl A q a))) (a + 1) ⟨by omega, by omega, ?_⟩ (by omega)
        rw [c3, show 3 - a = (3 - (a + 1)) + 1 by omega]
        conv => lhs; unfold pkA
        rw [if_neg el]
theorem i64_cases (i : Int64) : i < 0 ∨ ∃ k, k < 2 ^ 63 ∧ i = lN k ∧ i.toInt.toNat = k ∧ ¬ i < 0 ∧ 0 ≤ i := by
  by_cases h : i < 0
  · exact Or.inl h
  · obtain ⟨k, hk, rfl⟩ := pk_lOf h
    refine Or.inr ⟨k, hk, rfl, by rw [pk_lT hk]; rfl, h, ?_⟩
    rw [show (0 : Int64) = lN 0 from rfl, pk_lLE (by decide) hk]
    omega
theorem i64_neg {i : Int64} (h : i < 0) : ¬ 0 ≤ i := by
  rw [Int64.lt_iff_toInt_lt] at h
  rw [Int64.le_iff_toInt_le]
  omega
theorem fL_s (f : Nat → Nat) (r n l : Nat) : fLn f (r + 1) n l = if l < f n then some (n, l) else fLn f r (n + 1) (l - f n) := rfl
theorem S_word {x v : Int32} {i : Int64} {I : MI} {J : MJ} {σ : SG} {Q : Int64 → MI → MJ → Prop} (h : AbsS I J σ) (q : KSg I J (opWord x v i σ, σ) Q) : f_School_word x v i I J Q := by
  unfold f_School_word
  rw [s_machAt h]
  unfold opWord at q
  rcases maC_cases σ x with ⟨p, A, hp, rfl, ht, e, e0⟩ | ⟨e, e0⟩
  · rw [e] at q
    rw [if_pos e0, nI_clamp (by omega)]
    simp only at q ⊢
    have hP := (h.1 p hp).1
    rw [ht] at hP
    obtain ⟨g1, g2, g3⟩ := hP
    refine ⟨okM_p hp, ?_⟩
    rcases idx_cases (N := 8) (by decide) v with ⟨v', hv', rfl, ev⟩ | ⟨hb, ev⟩
    · rw [s_isAnN hv', if_neg (by decide)]
      rw [ev] at q
      simp only at q
      rcases i64_cases i with hi | ⟨k, hk, rfl, ek, hn, h0⟩
      · rw [if_neg (i64_neg hi)]
        rw [if_pos hi] at q
        exact q I J FrS.rf h
      · rw [if_pos h0]
        rw [if_neg hn, ek] at q
        unfold f_Tally_wordAt
        refine s_fill1 (by omega) g2 g3 (by omega) (fun I1 J1 t1 w1 s1 => ?_)
        have hA1 := t1.rep (by omega) g2
        refine lp3 (fun n (l : Nat) (m : Nat) (J2 : MJ) => f_Tally_wordAt_L12 (1 + 64 + 7 * p + 1) _ _ n (lN l) (nI m) I1 J2) (fun l m J2 => m ≤ 31 ∧ l < 2 ^ 63 ∧ TS I I1 J J2 ∧ WaysL J2 A v' (m - 1) ∧ fLn (fun n => tl A v' n (some (0, 0))) 31 0 k = fLn (fun n => tl A v' n (some (0, 0))) (31 - m) m l) (fun _ m _ => 31 - m) ?_ k 0 J1 ⟨by decide, hk, t1, WaysL0 w1, rfl⟩
        rintro n2 l m J2 ⟨b1, b2, b3, b4, b5⟩ ih
        unfold f_Tally_wordAt_L12
        by_cases em : m = 31
        · rw [if_pos (show (30 : Int32) < nI m by rw [em]; decide)]
          rw [b5, em] at q
          exact q I1 J2 b3.fr (b3.abs h)
        · rw [if_neg (show ¬ (30 : Int32) < nI m by rw [l30, ltNN (by decide) (by omega)]; omega)]
          have t60 := tl_60 A v' (show m ≤ 30 by omega) (some (0, 0))
          have b6 : fLn (fun n => tl A v' n (some (0, 0))) (31 - m) m l = if l < tl A v' m (some (0, 0)) then some (m, l) else fLn (fun n => tl A v' n (some (0, 0))) (30 - m) (m + 1) (l - tl A v' m (some (0, 0))) := by
            rw [show 31 - m = (30 - m) + 1 by omega]
            rfl
          rw [b6] at b5
          have fin : ∀ J3, TS I I1 J J3 → WaysL J3 A v' m → f_Tally_wordAt_b31 (lN l) (nI m) (f_Tally_wordAt_L12 (1 + 64 + 7 * p + 1) (fun (z48_x5 : Int64) (z48_x7 : Int32) (I : MI) (J : MJ) => f_Tally_spelled (1 + 64 + 7 * p + 1) z48_x7 z48_x5 I J (fun r54 I54 J54 => Q r54 I54 J54)) (fun (I : MI) (J : MJ) => Q (-1) I J) n2) (fun (z48_x5 : Int64) (z48_x7 : Int32) (I : MI) (J : MJ) => f_Tally_spelled (1 + 64 + 7 * p + 1) z48_x7 z48_x5 I J (fun r54 I54 J54 => Q r54 I54 J54)) I1 J3 := by
            intro J3 c1 c2
            unfold f_Tally_wordAt_b31
            have sw := @s_ways A v' m (some (0, 0)) I1 J3 (fun r35 I35 J35 => (if r35 ≤ lN l then ∀ t63 : Int64, t63 = lN l - r35 → ∀ t65 : Int32, t65 = nI m + 1 → (f_Tally_wordAt_L12 (1 + 64 + 7 * p + 1) (fun (z48_x5 : Int64) (z48_x7 : Int32) (I : MI) (J : MJ) => f_Tally_spelled (1 + 64 + 7 * p + 1) z48_x7 z48_x5 I J (fun r54 I54 J54 => Q r54 I54 J54)) (fun (I : MI) (J : MJ) => Q (-1) I J) n2) t63 t65 I35 J35 else f_Tally_spelled (1 + 64 + 7 * p + 1) (nI m) (lN l) I35 J35 (fun r54 I54 J54 => Q r54 I54 J54))) g3 (c2 m (Nat.le_refl _)) (by omega) (okSo_0 g3)
            rw [show enP (some (0, 0)) = 0 from rfl] at sw
            rw [sw]
            by_cases el : l < tl A v' m (some (0, 0))
            · rw [if_neg (by rw [lNle (by omega) b2]; omega)]
              rw [if_pos el] at b5
              rw [b5] at q
              exact s_spelled hA1 g3 (by omega) c2 b2 (q I1 J3 c1.fr (c1.abs h))
            · rw [if_pos (by rw [lNle (by omega) b2]; omega), lN_sub (by omega), forall_eq, nI_1, forall_eq]
              rw [if_neg el] at b5
              exact ih (l - tl A v' m (some (0, 0))) (m + 1) J3 ⟨by omega, by omega, c1, c2, by rw [b5]; congr 1; omega⟩ (by omega)
          cases m with
          | zero =>
            rw [if_pos (by decide)]
            exact fin J2 b3 b4
          | succ m =>
            rw [if_neg (nI_nle (by omega) (by omega))]
            exact s_fillL hA1 g3 (by omega) b4 s1 (fun J3 e3 w3 => fin J3 (b3.tr ⟨fun _ _ => rfl, e3⟩) w3)
    · rw [s_isAnB hb, if_pos rfl]
      rw [ev] at q
      exact q I J FrS.rf h
  · rw [e] at q
    rw [if_neg e0]
    exact q I J FrS.rf h
