theorem g_behind {i a n K : Nat} {to : Nat → Nat → Option Nat} {an : Nat → Nat} {R : Nat → Nat → Prop} {I : MI} {J : MJ} {Q : Int32 → MI → MJ → Prop} (g : GrS I n K to an) (go : GOf I n R) (hi : i < n) (ha : a < K) : f_Chart_groupBehind (nI i) (nI a) I J Q ↔ Q (enO ((to i a).map (cls R))) I J := by
  obtain ⟨g1, g2, g0, g3, g4, g5, g6⟩ := g
  have c := g6 i a hi ha
  unfold f_Chart_groupBehind
  rw [l4, pk_mul, nI_add, vpN (by omega), nI_clamp (by omega), c.1, forall_eq]
  have hb : i * 4 + a < 900 := by omega
  cases ht : to i a with
  | none =>
    rw [if_neg (by decide)]
    exact ⟨fun h => h.2, fun h => ⟨hb, h⟩⟩
  | some j =>
    have hj := c.2 j ht
    rw [if_pos (show (0 : Int32) ≤ enO (some j) from nI0_le (by omega)), show enO (some j) = nI j from rfl, vpN (by omega), nI_clamp (by omega), go j hj]
    exact ⟨fun h => h.2.2, fun h => ⟨hb, by omega, h⟩⟩
theorem g_write {o n K k : Nat} {to : Nat → Nat → Option Nat} {an : Nat → Nat} {R : Nat → Nat → Prop} {I : MI} {J : MJ} {Q : MI → MJ → Prop} (ho : 12 ≤ o) (g : GrS I n K to an) (hR : Eqv R) (go : GOf I n R) (fo : FOf I n R) (h22 : I 2 2 = nI (cr R n)) (h14 : cr R n ≤ 14) (hk1 : k ≤ K) (q : ∀ I', (∀ i, i < o ∨ o + 4 < i → I' i = I i) → RepC I' o (gMk n to an R k) → Q I' J) : f_Chart_writeGroups o (nI k) I J Q := by
  obtain ⟨g1, g2, g0, g3, g4, g5, g6⟩ := id g
  unfold f_Chart_writeGroups
  rw [h22, if_neg (show ¬ (14 : Int32) < nI (cr R n) by rw [l14, ltNN (by decide) (by omega)]; omega), l2]
  refine beginK (fun I1 f1 f2 f3 f4 f5 => ?_) h14 (by omega)
  have hc : ∀ i a j, i < n → a < K → to i a = some j → j < n := fun i a j hi ha => (g6 i a hi ha).2 j
  have h7 : ∀ i, i < n → an i ≤ 7 := fun i hi => (g5 i hi).1
  have hn1 : I1 o 1 = nI (cr R n) := by have := f3.2.1; rw [newA_n] at this; exact this
  have hn2 : I1 o 2 = nI k := f3.2.2.1
  -- what the loops keep
  refine lp2 (fun f (s : Nat) (I2 : MI) => f_Chart_writeGroups_L17 o (nI k) _ f (nI s) I2 J) (fun s I2 => s ≤ cr R n ∧ (∀ i, i ≠ o + 2 → i ≠ o + 4 → I2 i = I1 i) ∧ ∀ (u r : Nat), u < s → (rpL R n)[u]? = some r → I2 (o + 4) u = nI (an r) ∧ ∀ a, a < k → I2 (o + 2) (u * 4 + a) = enO ((to r a).map (cls R))) (fun s _ => cr R n - s) ?_ 0 I1 ⟨Nat.zero_le _, fun _ _ _ => rfl, fun u r hu => absurd hu (Nat.not_lt_zero _)⟩
  rintro f s I2 ⟨b1, b2, b3⟩ ih
  have fr : ∀ i, i < o ∨ o + 4 < i → I2 i = I i := fun i hi => by rw [b2 i (by omega) (by omega), f1 i hi]
  unfold f_Chart_writeGroups_L17
  rw [b2 o (by omega) (by omega), hn1]
  by_cases es : s = cr R n
  · rw [if_pos (show nI (cr R n) ≤ nI s by rw [es, leNN (by omega) (by omega)]; omega)]
    have e1 : I2 o 1 = nI (qsG n to an R k).length := by rw [qsG_len, b2 o (by omega) (by omega)]; exact hn1
    have e2 : I2 o 2 = nI k := by rw [b2 o (by omega) (by omega)]; exact hn2
    have rows : ∀ (u : Nat) (q : Option ROW × Nat), (qsG n to an R k)[u]? = some q → RowC I2 o u q := by
      intro u q hq
      obtain ⟨r, h1, rfl⟩ := qsG_get hq
      have hu : u < cr R n := (List.getElem?_eq_some_iff.mp h1).1
      obtain ⟨t1, t2⟩ := b3 u r (by omega) h1
      refine ⟨t1, (fun hh => by cases hh), fun r' hr' => ?_⟩
      cases hr'
      refine ⟨by rw [b2 (o + 1) (by omega) (by omega), (f4 u (by omega)).1]; simp, fun a x hx => ?_⟩
      obtain ⟨a1, rfl⟩ := rng_get hx
      refine ⟨t2 a a1, ?_⟩
      rw [b2 (o + 3) (by omega) (by omega), (f5 (u * 4 + a) (by omega)).2]
      rfl
    refine s_settle e1 (by rw [qsG_len]; exact h14) e2 (by omega) h14 rows (qsG_full hR h7 hk1 hc) (fun I3 e3 => ?_)
    exact q I3 (fun i hi => by rw [e3, sI_n _ _ (by omega), fr i hi]) (settled e1 e2 rows e3)
  · have hul : s < (rpL R n).length := by show s < cr R n; omega
    have hr := List.getElem?_eq_getElem hul
    generalize (rpL R n)[s] = r at hr
    obtain ⟨r1, r2, r3⟩ := rpL_get hr
    rw [if_neg (show ¬ nI (cr R n) ≤ nI s by rw [leNN (by omega) (by omega)]; omega), vpN (by omega), nI_clamp (by omega), fr 11 (by omega), fo s r hr, vpN (by omega), nI_clamp (by omega), fr 8 (by omega), (g5 r r1).2]
    refine ⟨by omega, by omega, by omega, fun I3 e3 => ?_⟩
    refine lp2 (fun f (a : Nat) (I4 : MI) => f_Chart_writeGroups_L45 o (nI k) (nI s) _ f (nI a) I4 J) (fun a I4 => a ≤ k ∧ (∀ i, i ≠ o + 2 → I4 i = I3 i) ∧ (∀ j, (j < s * 4 ∨ s * 4 + 4 ≤ j) → I4 (o + 2) j = I3 (o + 2) j) ∧ ∀ b, b < a → I4 (o + 2) (s * 4 + b) = enO ((to r b).map (cls R))) (fun a _ => 5 - a) ?_ 0 I3 ⟨Nat.zero_le _, fun _ _ => rfl, fun _ _ => rfl, fun b hb => absurd hb (Nat.not_lt_zero _)⟩
    rintro f2' a I4 ⟨c1, c2, c3, c4⟩ ih2
    have fr4 : ∀ i, i < o ∨ o + 4 < i → I4 i = I i := fun i hi => by rw [c2 i (by omega), e3, sI_n _ _ (by omega), fr i hi]
    unfold f_Chart_writeGroups_L45
    by_cases ea : a = k
    · rw [if_pos (show nI k ≤ nI a by rw [ea, leNN (by omega) (by omega)]; omega), nI_1, forall_eq]
      refine ih (s + 1) I4 ⟨by omega, fun i u v => by rw [c2 i u, e3, sI_n _ _ v, b2 i u v], fun u r' hu hr' => ?_⟩ (by omega)
      by_cases hus : u = s
      · subst hus
        rw [hr] at hr'
        cases hr'
        exact ⟨by rw [c2 _ (by omega), e3, sI_s, pk_us], fun b hb => c4 b (by omega)⟩
      · obtain ⟨t1, t2⟩ := b3 u r' (by omega) hr'
        refine ⟨by rw [c2 _ (by omega), e3, sI_s, pk_un hus]; exact t1, fun b hb => ?_⟩
        rw [c3 _ (by omega), e3, sI_n _ _ (by omega)]
        exact t2 b hb
    · have gr4 : GrS I4 n K to an := by
        unfold GrS
        rw [fr4 2 (by omega), fr4 8 (by omega), fr4 7 (by omega)]
        exact g
      have go4 : GOf I4 n R := fun j hj => by rw [fr4 9 (by omega)]; exact go j hj
      rw [if_neg (show ¬ nI k ≤ nI a by rw [leNN (by omega) (by omega)]; omega), vpN (by omega), nI_clamp (by omega), fr4 11 (by omega), fo s r hr, g_behind gr4 go4 r1 (by omega), l4, pk_mul, nI_add, vpN (by omega), nI_clamp (by omega)]
      refine ⟨by omega, by omega, fun I5 e5 t et => ?_⟩
      rw [et, nI_1 a]
      refine ih2 (a + 1) I5 ⟨by omega, fun i u => by rw [e5, sI_n _ _ u, c2 i u], fun j hj => by rw [e5, sI_s, upd_at, if_neg (by omega)]; exact c3 j hj, fun b hb => ?_⟩ (by omega)
      rw [e5, sI_s, upd_at]
      by_cases hba : b = a
      · rw [if_pos (by omega), hba]
      · rw [if_neg (by omega)]; exact c4 b (by omega)
/-! from keys to nodes -/
def ixL (L : List Nat) (k : Nat) : Option Nat := L.findIdx? (fun x => x == k)
def toL (nx : Nat → Nat → Option Nat) (L : List Nat) (i a : Nat) : Option Nat := (L[i]?).bind (fun x => (nx x a).bind (ixL L))
def anL (an : Nat → Nat) (L : List Nat) (i : Nat) : Nat := an (L.getD i 0)
theorem ixL_of {L : List Nat} (hnd : L.Nodup) {j k : Nat} (h : L[j]? = some k) : ixL L k = some j := by
  unfold ixL
  rw [List.findIdx?_eq_some_iff_getElem]
  obtain ⟨h1, h2⟩ := List.getElem?_eq_some_iff.mp h
  refine ⟨h1, by simp [h2], fun i hi => ?_⟩
  simp
  intro e
  have := (List.pairwise_iff_getElem.mp hnd) i j (by omega) h1 hi
  exact this (by rw [e, h2])
theorem toL_some {nx : Nat → Nat → Option Nat} {L : List Nat} (hnd : L.Nodup) {i a x k j : Nat} (hx : L[i]? = some x) (hk : nx x a = some k) (hj : L[j]? = some k) : toL nx L i a = some j := by
  unfold toL
  rw [hx]
  simp [hk, ixL_of hnd hj]
theorem toL_none {nx : Nat → Nat → Option Nat} {L : List Nat} {i a x : Nat} (hx : L[i]? = some x) (hk : nx x a = none) : toL nx L i a = none := by
  unfold toL
  rw [hx]
  simp [hk]
theorem anL_of {an : Nat → Nat} {L : List Nat} {i x : Nat} (hx : L[i]? = some x) : anL an L i = an x := by
  unfold anL
  simp [List.getD, hx]
theorem toL_lt {nx : Nat → Nat → Option Nat} {L : List Nat} {i a j : Nat} (h : toL nx L i a = some j) : j < L.length := by
  unfold toL at h
  cases hx : L[i]? with
  | none => rw [hx] at h; cases h
  | some x =>
    rw [hx] at h
    cases hk : nx x a with
    | none => simp [hk] at h
    | some k =>
      simp [hk] at h
      unfold ixL at h
      exact (List.findIdx?_eq_some_iff_getElem.mp h).1
/-- a chart that was explored is a graph -/
theorem ch_gr {I : MI} {nx : Nat → Nat → Option Nat} {an : Nat → Nat} {K : Nat} {L : List Nat} (hC : ChS I L) (hT : TbS I nx an K L) (hK : K ≤ 4) (hl : 1 ≤ L.length) (h7 : ∀ x ∈ L, an x ≤ 7) : GrS I L.length K (toL nx L) (anL an L) := by
  refine ⟨hC.1, hC.2.1, hl, hT.1, hK, fun i hi => ?_, fun i a hi ha => ?_⟩
  · have hx := List.getElem?_eq_getElem hi
    rw [anL_of hx]
    exact ⟨h7 _ (List.getElem_mem _), (hT.2 i _ hx).1⟩
  · have hx := List.getElem?_eq_getElem hi
    obtain ⟨t1, t2⟩ := (hT.2 i _ hx).2 a ha
    refine ⟨?_, fun j hj => toL_lt hj⟩
    cases hk : nx L[i] a with
    | none => rw [t1 hk, toL_none hx hk]; rfl
    | some k =>
      obtain ⟨j, j1, j2⟩ := t2 k hk
      rw [j2, toL_some hC.2.2.1 hx hk j1]
      rfl
