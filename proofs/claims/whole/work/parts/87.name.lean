/-! the reference names a machine -/
def RawM (I : MI) (m : Nat) (qs : List (Option ROW × Nat)) : Prop := ∀ (s : Nat) (q : Option ROW × Nat) (r : ROW), qs[s]? = some q → q.1 = some r → I 187 (14 * m + s) = nI q.2 ∧ ∀ (a : Nat) (x : Option Nat × Nat), r[a]? = some x → I 189 (4 * (14 * m + s) + a) = enO x.1
theorem m_name {m n k : Nat} {qs : List (Option ROW × Nat)} {I : MI} {J : MJ} {Q : MI → MJ → Prop} (hm : m < 20) (h1 : I 185 m = nI qs.length) (h14 : qs.length ≤ 14) (h2 : I 186 m = nI k) (hk : k ≤ 4) (hn : n ≤ 14) (hr : RawM I m qs) (hf : FullQ n k qs) (q : ∀ I', (∀ i, i ≠ 184 → i ≠ 188 → I' i = I i) → (∀ j, j ≠ m → I' 184 j = I 184 j) → (∀ j, (j < 14 * m ∨ 14 * m + 14 ≤ j) → I' 188 j = I 188 j) → RepM I' m (kdOf k qs, k, qs) → Q I' J) : f_Model_name (nI m) I J Q := by
  unfold f_Model_name
  refine lp4 (fun f (b : Bool) (c : Bool) (s : Nat) (I1 : MI) => f_Model_name_L7 (nI m) _ f (if b then 1 else 0) (if c then 1 else 0) (nI s) I1 J) (fun b c s I1 => s ≤ qs.length ∧ (∀ i, i ≠ 188 → I1 i = I i) ∧ (∀ j, (j < 14 * m ∨ 14 * m + 14 ≤ j) → I1 188 j = I 188 j) ∧ (∀ u, u < s → I1 188 (14 * m + u) = nI k) ∧ (b = !(qs.take s).any (lackQ k)) ∧ (c = !(qs.take s).any (fun q => decide (1 < q.2)))) (fun _ _ s _ => qs.length - s) ?_ true true 0 I ⟨Nat.zero_le _, fun _ _ => rfl, fun _ _ => rfl, (fun u hu => absurd hu (Nat.not_lt_zero _)), by simp, by simp⟩
  rintro f b c s I1 ⟨b1, b2, b3, b4, b5, b6⟩ ih
  unfold f_Model_name_L7
  rw [vpN (by omega), nI_clamp (by omega), b2 185 (by decide), h1, b2 186 (by decide), h2]
  refine ⟨hm, ?_⟩
  by_cases es : s = qs.length
  · rw [if_pos (show nI qs.length ≤ nI s by rw [es, leNN (by omega) (by omega)]; omega)]
    rw [es, List.take_length] at b5 b6
    have fin : ∀ v : Nat, v = kdOf k qs → f_Model_name_b136 (nI m) (nI v) Q I1 J := by
      intro v hv
      unfold f_Model_name_b136
      rw [vpN (by omega), nI_clamp (by omega)]
      refine ⟨hm, fun I2 e2 => ?_⟩
      have f2 : ∀ i, i ≠ 184 → I2 i = I1 i := fun i hi => by rw [e2, sI_n _ _ hi]
      refine q I2 (fun i u w => by rw [f2 i u, b2 i w]) (fun j hj => by rw [e2, sI_s, pk_un hj, b2 184 (by decide)]) (fun j hj => by rw [f2 188 (by decide)]; exact b3 j hj) ⟨by rw [e2, sI_s, pk_us, hv], by rw [f2 185 (by decide), b2 185 (by decide)]; exact h1, by rw [f2 186 (by decide), b2 186 (by decide)]; exact h2, fun u z hz => ?_⟩
      obtain ⟨z7, r, hzr, hrl, hrx⟩ := hf z (List.mem_of_getElem? hz)
      have hul := (List.getElem?_eq_some_iff.mp hz).1
      have hul' : u < qs.length := hul
      obtain ⟨r1, r2⟩ := hr u z r hz hzr
      refine ⟨by rw [f2 187 (by decide), b2 187 (by decide)]; exact r1, (fun hh => by rw [hzr] at hh; cases hh), fun r' hr' => ?_⟩
      rw [hzr] at hr'
      cases hr'
      refine ⟨by rw [f2 188 (by decide), b4 u (by omega), hrl], fun a x hx => ⟨by rw [f2 189 (by decide), b2 189 (by decide)]; exact r2 a x hx, fun h3 => ?_⟩⟩
      have h3' : kdOf k qs = 3 := h3
      have := kdOf_2 k qs
      omega
    rw [kdOf_eq] at fin
    cases hb : qs.any (lackQ k) with
    | true =>
      rw [hb] at b5 fin
      rw [b5, if_pos (by decide)]
      exact fin 2 (by rw [if_pos rfl])
    | false =>
      rw [hb] at b5 fin
      rw [b5, if_neg (by decide)]
      cases hc : qs.any (fun q => decide (1 < q.2)) with
      | true =>
        rw [hc] at b6 fin
        rw [b6, if_pos (by decide)]
        exact fin 1 (by rw [if_neg (by decide), if_pos rfl])
      | false =>
        rw [hc] at b6 fin
        rw [b6, if_neg (by decide)]
        exact fin 0 (by rw [if_neg (by decide), if_neg (by decide)])
  · have hg : qs[s]? = some (qs[s]'(by omega)) := List.getElem?_eq_getElem (by omega)
    generalize (qs[s]'(by omega)) = z at hg
    have hzm := List.mem_of_getElem? hg
    obtain ⟨z7, r, hzr, hrl, hrx⟩ := hf z hzm
    obtain ⟨r1, r2⟩ := hr s z r hg hzr
    have tk := take_any (f := lackQ k) hg
    have tc := take_any (f := fun q : Option ROW × Nat => decide (1 < q.2)) hg
    rw [lackQ_f hf hzm hzr] at tk
    rw [if_neg (show ¬ nI qs.length ≤ nI s by rw [leNN (by omega) (by omega)]; omega), l14, pk_mul, nI_add, vpN (by omega), nI_clamp (by omega)]
    refine ⟨hm, by omega, fun I2 e2 => ?_⟩
    have f2 : ∀ i, i ≠ 188 → I2 i = I i := fun i hi => by rw [e2, sI_n _ _ hi]; exact b2 i hi
    have inner : ∀ c2 : Bool, c2 = !(qs.take (s + 1)).any (fun q => decide (1 < q.2)) → f_Model_name_b61 (nI m) (if b then 1 else 0) (nI s) (if c2 then 1 else 0) (f_Model_name_L7 (nI m) (fun (z114_x2 : Int32) (z114_x3 : Int32) (I : MI) (J : MJ) => (if z114_x2 = 0 then f_Model_name_b136 (nI m) 2 Q I J else (if z114_x3 = 0 then f_Model_name_b136 (nI m) 1 Q I J else f_Model_name_b136 (nI m) 0 Q I J))) f) I2 J := by
      intro c2 hc2
      unfold f_Model_name_b61
      refine lp2 (fun f' (d : Bool) (a : Nat) => f_Model_name_L65 (nI m) (nI s) _ f' (if d then 1 else 0) (nI a) I2 J) (fun d a => a ≤ k ∧ d = (b && !(r.take a).any (fun x => x.1.isNone))) (fun _ a => 5 - a) ?_ b 0 ⟨Nat.zero_le _, by simp⟩
      rintro f' d a ⟨c1, c3⟩ ih2
      unfold f_Model_name_L65 f_Model_name_b100 f_Model_name_b101
      rw [vpN (by omega), nI_clamp (by omega), f2 186 (by decide), h2]
      refine ⟨hm, ?_⟩
      by_cases ea : a = k
      · rw [if_pos (show nI k ≤ nI a by rw [ea, leNN (by omega) (by omega)]; omega), nI_1 s, forall_eq]
        refine ih d c2 (s + 1) I2 ⟨by omega, f2, fun j hj => by rw [e2, sI_s, upd_at, if_neg (by omega)]; exact b3 j hj, fun u hu => ?_, ?_, hc2⟩ (by omega)
        · rw [e2, sI_s, upd_at]
          by_cases hus : u = s
          · rw [if_pos (by omega)]
          · rw [if_neg (by omega)]; exact b4 u (by omega)
        · rw [ea, ← hrl, List.take_length] at c3
          rw [c3, b5, tk]
          simp
      · have hga : r[a]? = some (r[a]'(by omega)) := List.getElem?_eq_getElem (by omega)
        generalize (r[a]'(by omega)) = y at hga
        have ty := take_any (f := fun x : Option Nat × Nat => x.1.isNone) hga
        have hy := r2 a y hga
        have hyn := (hrx y (List.mem_of_getElem? hga)).1
        rw [if_neg (show ¬ nI k ≤ nI a by rw [leNN (by omega) (by omega)]; omega)]
        cases d with
        | false =>
          rw [if_pos (by decide)]
          intro t et
          rw [et, nI_1 a]
          refine ih2 false (a + 1) ⟨by omega, ?_⟩ (by omega)
          rw [ty, Bool.not_or, ← Bool.and_assoc, ← c3]; simp
        | true =>
          rw [if_neg (by decide), spotN, vpN (by omega), nI_clamp (by omega), f2 189 (by decide), hy]
          refine ⟨by omega, ?_⟩
          cases hy1 : y.1 with
          | none =>
            rw [if_pos (by decide)]
            intro t et
            rw [et, nI_1 a]
            refine ih2 false (a + 1) ⟨by omega, ?_⟩ (by omega)
            rw [ty, Bool.not_or, ← Bool.and_assoc, ← c3, hy1]; simp
          | some t =>
            have := hyn t hy1
            rw [if_neg (show ¬ enO (some t) < 0 from nI0_lt (by omega))]
            intro t' et
            rw [et, nI_1 a]
            refine ih2 true (a + 1) ⟨by omega, ?_⟩ (by omega)
            rw [ty, Bool.not_or, ← Bool.and_assoc, ← c3, hy1]; simp
    unfold f_Model_name_b60
    cases c with
    | false =>
      rw [if_pos (by decide)]
      refine inner false ?_
      rw [tc, Bool.not_or, ← b6]; simp
    | true =>
      rw [if_neg (by decide), f2 187 (by decide), r1]
      refine ⟨by omega, ?_⟩
      by_cases h2z : 2 ≤ z.2
      · rw [if_pos (show (2 : Int32) ≤ nI z.2 by rw [l2, leNN (by decide) (by omega)]; exact h2z)]
        refine inner false ?_
        rw [tc, Bool.not_or, ← b6]; simp [show 1 < z.2 by omega]
      · rw [if_neg (show ¬ (2 : Int32) ≤ nI z.2 by rw [l2, leNN (by decide) (by omega)]; exact h2z)]
        refine inner true ?_
        rw [tc, Bool.not_or, ← b6]; simp [show ¬ 1 < z.2 by omega]
/-- how many signs a machine uses -/
theorem m_trim {m n : Nat} {tk : Nat → Nat → Option Nat} {I : MI} {J : MJ} {Q : MI → MJ → Prop} (hm : m < 20) (h1 : I 185 m = nI n) (h14 : n ≤ 14) (ht : ∀ s a, s < n → a < 4 → I 189 (4 * (14 * m + s) + a) = enO (tk s a) ∧ ∀ j, tk s a = some j → j < 14) (q : ∀ k I', isKs n 4 tk k → k ≤ 4 → I' = sI I 186 (upd (I 186) m (nI k)) → f_Model_name (nI m) I' J (fun I74 J74 => Q I74 J74)) : f_Model_trim (nI m) I J Q := by
  unfold f_Model_trim
  rw [vpN (by omega), nI_clamp (by omega)]
  refine lp2 (fun f (k : Nat) (s : Nat) => f_Model_trim_L4 (nI m) _ f (nI k) (nI s) I J) (fun k s => s ≤ n ∧ k ≤ 4 ∧ isKs s 4 tk k) (fun _ s => n - s) ?_ 1 0 ⟨Nat.zero_le _, by decide, Nat.le_refl _, (fun i a hi => absurd hi (Nat.not_lt_zero _)), Or.inl rfl⟩
  rintro f k s ⟨b1, b2, b3⟩ ih
  unfold f_Model_trim_L4
  rw [vpN (by omega), nI_clamp (by omega), h1]
  refine ⟨hm, ?_⟩
  by_cases es : s = n
  · rw [if_pos (show nI n ≤ nI s by rw [es, leNN (by omega) (by omega)]; omega)]
    subst es
    exact ⟨hm, fun I2 e2 => q k I2 b3 b2 e2⟩
  · rw [if_neg (show ¬ nI n ≤ nI s by rw [leNN (by omega) (by omega)]; omega)]
    refine lp2 (fun f (k2 : Nat) (a : Nat) => f_Model_trim_L17 (nI m) (nI s) _ f (nI k2) (nI a) I J) (fun k2 a => 1 ≤ k2 ∧ k ≤ k2 ∧ k2 ≤ 4 ∧ 1 ≤ a ∧ a ≤ 4 ∧ (∀ b, b < a → tk s b ≠ none → b < k2) ∧ (k2 = k ∨ (k2 - 1 < 4 ∧ tk s (k2 - 1) ≠ none))) (fun _ a => 5 - a) ?_ k 1 ⟨b3.1, Nat.le_refl _, b2, Nat.le_refl _, by decide, (fun b hb _ => by have := b3.1; omega), Or.inl rfl⟩
    rintro f2 k2 a ⟨c1, c2, c3, c4, c5, c6, c7⟩ ih2
    unfold f_Model_trim_L17 f_Model_trim_b51 f_Model_trim_b52
    by_cases ea : a = 4
    · rw [if_pos (show (4 : Int32) ≤ nI a by rw [ea]; decide), nI_1, forall_eq]
      refine ih k2 (s + 1) ⟨by omega, c3, c1, fun i' a' hi' ha' hn => ?_, ?_⟩ (by omega)
      · by_cases hii : i' = s
        · rw [hii] at hn; exact c6 a' (by omega) hn
        · have := b3.2.1 i' a' (by omega) ha' hn; omega
      · rcases c7 with e | ⟨e1, e2⟩
        · rcases b3.2.2 with e' | ⟨i', h1', h2', h3'⟩
          · exact Or.inl (by omega)
          · exact Or.inr ⟨i', by omega, by rw [e]; exact h2', by rw [e]; exact h3'⟩
        · exact Or.inr ⟨s, by omega, e1, e2⟩
    · obtain ⟨t1, t2⟩ := ht s a (by omega) (by omega)
      rw [if_neg (show ¬ (4 : Int32) ≤ nI a by rw [l4, leNN (by decide) (by omega)]; omega), spotN, vpN (by omega), nI_clamp (by omega), t1, nI_1, forall_eq, forall_eq]
      refine ⟨by omega, ?_⟩
      cases hta : tk s a with
      | none =>
        rw [if_pos (by decide)]
        refine ih2 k2 (a + 1) ⟨c1, c2, c3, by omega, by omega, fun b hb hn => ?_, c7⟩ (by omega)
        by_cases hba : b = a
        · rw [hba] at hn; exact absurd hta hn
        · exact c6 b (by omega) hn
      | some j =>
        have := t2 j hta
        rw [if_neg (show ¬ enO (some j) < 0 from nI0_lt (by omega))]
        by_cases hak : a < k2
        · rw [if_pos (show nI a < nI k2 by rw [ltNN (by omega) (by omega)]; exact hak)]
          refine ih2 k2 (a + 1) ⟨c1, c2, c3, by omega, by omega, fun b hb hn => ?_, c7⟩ (by omega)
          by_cases hba : b = a
          · omega
          · exact c6 b (by omega) hn
        · rw [if_neg (show ¬ nI a < nI k2 by rw [ltNN (by omega) (by omega)]; exact hak)]
          exact ih2 (a + 1) (a + 1) ⟨by omega, by omega, by omega, by omega, by omega, (fun b hb _ => by omega), Or.inr ⟨by omega, by rw [show a + 1 - 1 = a by omega, hta]; simp⟩⟩ (by omega)
