/-! a machine's kind by what it has -/
theorem take_any {α : Type} {f : α → Bool} {l : List α} {i : Nat} {x : α} (h : l[i]? = some x) : (l.take (i + 1)).any f = ((l.take i).any f || f x) := by
  rw [List.take_add_one, h]
  simp
theorem s_top {o n k : Nat} {qs : List (Option ROW × Nat)} {I : MI} {J : MJ} {Q : Int32 → MI → MJ → Prop} (h1 : I o 1 = nI qs.length) (h14 : qs.length ≤ 14) (hr : ∀ (s : Nat) (q : Option ROW × Nat), qs[s]? = some q → RowC I o s q) (hf : FullQ n k qs) (q : ∀ m, m ≤ 7 → (qs.any (fun q => decide (1 < q.2)) = decide (1 < m)) → Q (nI m) I J) : f_Machine_topAnswer o I J Q := by
  unfold f_Machine_topAnswer
  refine lp2 (fun f (m : Nat) (s : Nat) => f_Machine_topAnswer_L4 o _ f (nI m) (nI s) I J) (fun m s => s ≤ qs.length ∧ m ≤ 7 ∧ (qs.take s).any (fun q => decide (1 < q.2)) = decide (1 < m)) (fun _ s => qs.length - s) ?_ 0 0 ⟨Nat.zero_le _, by decide, by simp⟩
  rintro f m s ⟨b1, b2, b3⟩ ih
  unfold f_Machine_topAnswer_L4
  rw [h1]
  by_cases es : s = qs.length
  · rw [if_pos (show nI qs.length ≤ nI s by rw [es, leNN (by omega) (by omega)]; omega)]
    rw [es, List.take_length] at b3
    exact q m b2 b3
  · have hg : qs[s]? = some (qs[s]'(by omega)) := List.getElem?_eq_getElem (by omega)
    generalize (qs[s]'(by omega)) = z at hg
    have h7 := (hf z (List.mem_of_getElem? hg)).1
    rw [if_neg (show ¬ nI qs.length ≤ nI s by rw [leNN (by omega) (by omega)]; omega), vpN (by omega), nI_clamp (by omega), (hr s z hg).1, forall_eq, nI_1, forall_eq]
    refine ⟨by omega, ?_⟩
    have tk := take_any (f := fun q : Option ROW × Nat => decide (1 < q.2)) hg
    rw [b3] at tk
    by_cases hl : m < z.2
    · rw [if_pos (show nI m < nI z.2 by rw [ltNN (by omega) (by omega)]; exact hl)]
      refine ih z.2 (s + 1) ⟨by omega, h7, ?_⟩ (by omega)
      rw [tk]
      by_cases h1m : 1 < m
      · simp [h1m, show 1 < z.2 by omega]
      · simp [h1m]
    · rw [if_neg (show ¬ nI m < nI z.2 by rw [ltNN (by omega) (by omega)]; exact hl)]
      refine ih m (s + 1) ⟨by omega, b2, ?_⟩ (by omega)
      rw [tk]
      by_cases h1m : 1 < m
      · simp [h1m]
      · simp [h1m, show ¬ 1 < z.2 by omega]
theorem s_settle {o n k : Nat} {qs : List (Option ROW × Nat)} {I : MI} {J : MJ} {Q : MI → MJ → Prop} (h1 : I o 1 = nI qs.length) (h14 : qs.length ≤ 14) (h2 : I o 2 = nI k) (hk : k ≤ 4) (hn : n ≤ 14) (hr : ∀ (s : Nat) (q : Option ROW × Nat), qs[s]? = some q → RowC I o s q) (hf : FullQ n k qs) (q : ∀ I', I' = sI I o (upd (I o) 0 (nI (kdOf k qs))) → Q I' J) : f_Machine_settleKind o I J Q := by
  unfold f_Machine_settleKind
  refine lp2 (fun f (b : Bool) (s : Nat) => f_Machine_settleKind_L4 o _ f (if b then 1 else 0) (nI s) I J) (fun b s => s ≤ qs.length ∧ b = (qs.take s).any (lackQ k)) (fun _ s => qs.length - s) ?_ false 0 ⟨Nat.zero_le _, by simp⟩
  rintro f b s ⟨b1, b2⟩ ih
  unfold f_Machine_settleKind_L4
  rw [h1]
  by_cases es : s = qs.length
  · rw [if_pos (show nI qs.length ≤ nI s by rw [es, leNN (by omega) (by omega)]; omega)]
    rw [es, List.take_length] at b2
    refine s_top h1 h14 hr hf (fun m h7 hm => ?_)
    rw [kdOf_eq, ← b2, hm] at q
    unfold f_Machine_settleKind_b71 f_Machine_settleKind_b82
    by_cases h1m : 1 < m
    · rw [if_neg (show ¬ nI m ≤ 1 by rw [l1, leNN (by omega) (by decide)]; omega)]
      cases b with
      | true =>
        rw [if_neg (show ¬ (if true = true then (1 : Int32) else 0) = 0 by decide)]
        exact q
      | false =>
        rw [if_pos (show (if false = true then (1 : Int32) else 0) = 0 by decide)]
        rw [if_neg (show ¬ false = true by decide), if_pos (by simp [h1m])] at q
        exact q
    · rw [if_pos (show nI m ≤ 1 by rw [l1, leNN (by omega) (by decide)]; omega)]
      cases b with
      | true =>
        rw [if_neg (show ¬ (if true = true then (1 : Int32) else 0) = 0 by decide)]
        exact q
      | false =>
        rw [if_pos (show (if false = true then (1 : Int32) else 0) = 0 by decide)]
        rw [if_neg (show ¬ false = true by decide), if_neg (by simp [h1m])] at q
        exact q
  · have hg : qs[s]? = some (qs[s]'(by omega)) := List.getElem?_eq_getElem (by omega)
    generalize (qs[s]'(by omega)) = z at hg
    have hzm := List.mem_of_getElem? hg
    obtain ⟨z7, r, hzr, hrl, hrx⟩ := hf z hzm
    have tk := take_any (f := lackQ k) hg
    rw [lackQ_f hf hzm hzr, ← b2] at tk
    rw [if_neg (show ¬ nI qs.length ≤ nI s by rw [leNN (by omega) (by omega)]; omega)]
    refine lp2 (fun f (c : Bool) (a : Nat) => f_Machine_settleKind_L14 o (nI s) _ f (if c then 1 else 0) (nI a) I J) (fun c a => a ≤ k ∧ c = (b || (r.take a).any (fun x => x.1.isNone))) (fun _ a => 5 - a) ?_ b 0 ⟨Nat.zero_le _, by simp⟩
    rintro f2 c a ⟨c1, c2⟩ ih2
    unfold f_Machine_settleKind_L14 f_Machine_settleKind_b40 f_Machine_settleKind_b45
    rw [h2]
    by_cases ea : a = k
    · rw [if_pos (show nI k ≤ nI a by rw [ea, leNN (by omega) (by omega)]; omega), nI_1, forall_eq]
      refine ih c (s + 1) ⟨by omega, ?_⟩ (by omega)
      rw [ea, ← hrl, List.take_length] at c2
      rw [tk, c2]
    · have hga : r[a]? = some (r[a]'(by omega)) := List.getElem?_eq_getElem (by omega)
      generalize (r[a]'(by omega)) = y at hga
      have ty := take_any (f := fun x : Option Nat × Nat => x.1.isNone) hga
      have hy := ((hr s z hg).2.2 r hzr).2 a y hga
      have hyn := (hrx y (List.mem_of_getElem? hga)).1
      have hsl : s < qs.length := by omega
      rw [if_neg (show ¬ nI k ≤ nI a by rw [leNN (by omega) (by omega)]; omega), nI_1, forall_eq, forall_eq]
      cases c with
      | true =>
        rw [if_neg (by decide)]
        refine ih2 true (a + 1) ⟨by omega, ?_⟩ (by omega)
        rw [ty, ← Bool.or_assoc, ← c2]; simp
      | false =>
        rw [if_pos (by decide), l4, pk_mul, nI_add, vpN (by omega), nI_clamp (by omega), hy.1]
        refine ⟨by omega, ?_⟩
        cases hy1 : y.1 with
        | none =>
          rw [if_pos (show enO none = -1 from rfl)]
          refine ih2 true (a + 1) ⟨by omega, ?_⟩ (by omega)
          rw [ty, ← Bool.or_assoc, ← c2, hy1]; simp
        | some t =>
          have := hyn t hy1
          rw [if_neg (show ¬ enO (some t) = -1 from lm1 (by omega))]
          refine ih2 false (a + 1) ⟨by omega, ?_⟩ (by omega)
          rw [ty, ← Bool.or_assoc, ← c2, hy1]; simp
theorem settled {o k : Nat} {qs : List (Option ROW × Nat)} {I I' : MI} (h1 : I o 1 = nI qs.length) (h2 : I o 2 = nI k) (hr : ∀ (s : Nat) (q : Option ROW × Nat), qs[s]? = some q → RowC I o s q) (e : I' = sI I o (upd (I o) 0 (nI (kdOf k qs)))) : RepC I' o (kdOf k qs, k, qs) := by
  have hn : ∀ i, i ≠ o → I' i = I i := fun i hi => by rw [e, sI_n _ _ hi]
  refine ⟨by rw [e, sI_s, pk_us], by rw [e, sI_s, pk_un (by decide)]; exact h1, by rw [e, sI_s, pk_un (by decide)]; exact h2, fun s q hq => ?_⟩
  have := hr s q hq
  unfold RowC at *
  rw [hn (o + 4) (by omega), hn (o + 1) (by omega), hn (o + 2) (by omega), hn (o + 3) (by omega)]
  exact this
/-! the groups as states -/
noncomputable section
def qsG (n : Nat) (to : Nat → Nat → Option Nat) (an : Nat → Nat) (R : Nat → Nat → Prop) (k : Nat) : List (Option ROW × Nat) := (rpL R n).map (fun r => (some ((List.range k).map (fun a => ((to r a).map (cls R), 0))), an r))
def gMk (n : Nat) (to : Nat → Nat → Option Nat) (an : Nat → Nat) (R : Nat → Nat → Prop) (k : Nat) : AM := (kdOf k (qsG n to an R k), k, qsG n to an R k)
end
theorem qsG_len {n : Nat} {to : Nat → Nat → Option Nat} {an : Nat → Nat} {R : Nat → Nat → Prop} {k : Nat} : (qsG n to an R k).length = cr R n := by simp [qsG, cr]
theorem qsG_get {n : Nat} {to : Nat → Nat → Option Nat} {an : Nat → Nat} {R : Nat → Nat → Prop} {k s : Nat} {q : Option ROW × Nat} (h : (qsG n to an R k)[s]? = some q) : ∃ r, (rpL R n)[s]? = some r ∧ q = (some ((List.range k).map (fun a => ((to r a).map (cls R), 0))), an r) := by
  unfold qsG at h
  rw [List.getElem?_map] at h
  cases hr : (rpL R n)[s]? with
  | none => rw [hr] at h; cases h
  | some r => rw [hr] at h; cases h; exact ⟨r, rfl, rfl⟩
theorem rng_get {k a : Nat} {f : Nat → Option Nat × Nat} {x : Option Nat × Nat} (h : ((List.range k).map f)[a]? = some x) : a < k ∧ x = f a := by
  obtain ⟨h1, h2⟩ := List.getElem?_eq_some_iff.mp h
  simp at h1 h2
  exact ⟨h1, h2.symm⟩
theorem qsG_full {n K : Nat} {to : Nat → Nat → Option Nat} {an : Nat → Nat} {R : Nat → Nat → Prop} {k : Nat} (hR : Eqv R) (h7 : ∀ i, i < n → an i ≤ 7) (hk : k ≤ K) (hc : ∀ i a j, i < n → a < K → to i a = some j → j < n) : FullQ (cr R n) k (qsG n to an R k) := by
  intro q hq
  obtain ⟨s, hs⟩ := List.mem_iff_getElem?.mp hq
  obtain ⟨r, h1, rfl⟩ := qsG_get hs
  obtain ⟨r1, r2, r3⟩ := rpL_get h1
  refine ⟨h7 r r1, _, rfl, by simp, fun x hx => ?_⟩
  obtain ⟨a, ha⟩ := List.mem_iff_getElem?.mp hx
  obtain ⟨a1, rfl⟩ := rng_get ha
  refine ⟨fun t ht => ?_, rfl⟩
  simp only at ht
  cases hto : to r a with
  | none => rw [hto] at ht; cases ht
  | some j =>
    rw [hto] at ht
    cases ht
    exact cls_lt hR (hc r a j r1 (by omega) hto)
