theorem rel_isRp {R R' : Nat → Nat → Prop} {n : Nat} (h : ∀ i j, i < n → j < n → (R i j ↔ R' i j)) {i : Nat} (hi : i < n) : isRp R i ↔ isRp R' i := ⟨fun hr j hj hR => hr j hj ((h j i (by omega) hi).mpr hR), fun hr j hj hR => hr j hj ((h j i (by omega) hi).mp hR)⟩
theorem rel_rpL {R R' : Nat → Nat → Prop} : ∀ {n : Nat}, (∀ i j, i < n → j < n → (R i j ↔ R' i j)) → rpL R n = rpL R' n
  | 0, _ => rfl
  | n + 1, h => by
    have ih := rel_rpL (R := R) (R' := R') (n := n) (fun i j hi hj => h i j (by omega) (by omega))
    by_cases hn : isRp R n
    · rw [rpL_p hn, rpL_p ((rel_isRp h (by omega)).mp hn), ih]
    · rw [rpL_n hn, rpL_n (fun hh => hn ((rel_isRp h (by omega)).mpr hh)), ih]
theorem rel_cr {R R' : Nat → Nat → Prop} {n : Nat} (h : ∀ i j, i < n → j < n → (R i j ↔ R' i j)) : cr R n = cr R' n := by unfold cr; rw [rel_rpL h]
theorem rel_rp {R R' : Nat → Nat → Prop} (hR : Eqv R) (hR' : Eqv R') {n : Nat} (h : ∀ i j, i < n → j < n → (R i j ↔ R' i j)) {i : Nat} (hi : i < n) : rp R i = rp R' i := by
  obtain ⟨a1, a2, a3⟩ := rp_spec hR i
  obtain ⟨b1, b2, b3⟩ := rp_spec hR' i
  rcases Nat.lt_trichotomy (rp R i) (rp R' i) with hl | hl | hl
  · exact absurd ((h _ _ (by omega) hi).mp a1) (b2 _ hl)
  · exact hl
  · exact absurd ((h _ _ (by omega) hi).mpr b1) (a2 _ hl)
theorem rel_cls {R R' : Nat → Nat → Prop} (hR : Eqv R) (hR' : Eqv R') {n : Nat} (h : ∀ i j, i < n → j < n → (R i j ↔ R' i j)) {i : Nat} (hi : i < n) : cls R i = cls R' i := by
  unfold cls
  have := (rp_spec hR i).2.2
  rw [← rel_rp hR hR' h hi]
  exact rel_cr (fun a b ha hb => h a b (by omega) (by omega))
theorem cls_T (i : Nat) : cls (fun _ _ => True) i = 0 := by
  have hE : Eqv (fun _ _ => True) := ⟨fun _ => trivial, fun _ _ _ => trivial, fun _ _ _ _ _ => trivial⟩
  have : rp (fun _ _ => True) i = 0 := by
    have h2 := (rp_spec hE i).2.1
    by_cases e : rp (fun _ _ => True) i = 0
    · exact e
    · exact absurd trivial (h2 0 (by omega))
  unfold cls
  rw [this]
  rfl
theorem cr_1 {R : Nat → Nat → Prop} {n : Nat} (h : 1 ≤ n) : 1 ≤ cr R n := by
  have h0 : isRp R 0 := fun j hj => absurd hj (Nat.not_lt_zero _)
  have := cr_lt h0 (show 0 < n by omega)
  omega
theorem g_nodes {n K : Nat} {to : Nat → Nat → Option Nat} {an : Nat → Nat} {I : MI} {J : MJ} {Q : Int32 → MI → MJ → Prop} (g : GrS I n K to an) (q15 : 14 < cr (eqN to an K) n → ∀ I', Grp I I' → I' 2 2 = nI 15 → Q (nI 15) I' J) (q : cr (eqN to an K) n ≤ 14 → ∀ I', Grp I I' → GOf I' n (eqN to an K) → FOf I' n (eqN to an K) → I' 2 2 = nI (cr (eqN to an K) n) → Q (nI (cr (eqN to an K) n)) I' J) : f_Chart_groupNodes I J Q := by
  obtain ⟨g1, g2, g0, g3, g4, g5, g6⟩ := id g
  have hE := eqN_e to an K
  have hc : ∀ i a j, i < n → a < K → to i a = some j → j < n := fun i a j hi ha => (g6 i a hi ha).2 j
  have h7 : ∀ i, i < n → an i ≤ 7 := fun i hi => (g5 i hi).1
  unfold f_Chart_groupNodes
  refine lp2 (fun f (i : Nat) (I1 : MI) => f_Chart_groupNodes_L2 _ f (nI i) I1 J) (fun i I1 => i ≤ n ∧ Grp I I1 ∧ ∀ j, j < i → I1 9 j = 0) (fun i _ => n - i) ?_ 0 I ⟨Nat.zero_le _, Grp.rf, fun j hj => absurd hj (Nat.not_lt_zero _)⟩
  rintro f i I1 ⟨b1, b2, b3⟩ ih
  unfold f_Chart_groupNodes_L2
  rw [(b2.gr g).1]
  by_cases ei : i = n
  · rw [if_pos (show nI n ≤ nI i by rw [ei, leNN (by omega) (by omega)]; omega), forall_eq]
    subst ei
    refine lp2 (fun f (t : Nat) (I2 : MI) => f_Chart_groupNodes_L30 _ _ f (nI t) I2 J) (fun t I2 => Grp I I2 ∧ ∃ (R : Nat → Nat → Prop) (c : Nat), Eqv R ∧ GOf I2 i R ∧ I2 2 2 = nI c ∧ t ≤ c ∧ c ≤ 14 ∧ (c = 0 ∨ c = cr R i) ∧ (∀ x y, x < i → y < i → eqN to an K x y → R x y) ∧ ∀ x y, x < i → y < i → alN to an K R x y → R x y) (fun t _ => 15 - t) ?_ 0 (sI I1 2 (upd (I1 2) 2 0)) ⟨b2.tr ⟨fun j a b c d => sI_n _ _ a, fun j hj => by rw [sI_s, pk_un hj]⟩, fun _ _ => True, 0, ⟨fun _ => trivial, fun _ _ _ => trivial, fun _ _ _ _ _ => trivial⟩, fun j hj => by rw [sI_n _ _ (by decide), b3 j hj, cls_T]; rfl, by rw [sI_s, pk_us]; rfl, Nat.le_refl _, by decide, Or.inl rfl, fun _ _ _ _ _ => trivial, fun _ _ _ _ _ => trivial⟩
    rintro f2 t I2 ⟨c1, R, c, c2, c3, c4, c5, c6, c7, c8, c9⟩ ih2
    unfold f_Chart_groupNodes_L30
    rw [if_neg (show ¬ (14 : Int32) < nI t by rw [l14, ltNN (by decide) (by omega)]; omega), forall_eq, c4]
    have hA : Eqv (alN to an K R) := alN_e c2
    have hsub : ∀ x y, x < i → y < i → eqN to an K x y → alN to an K R x y := fun x y hx hy h => alN_mono hc c8 x y hx hy (eqN_al h7 hc hx hy h)
    refine g_split (c1.gr g) c2 c3 (fun h15 I3 e3 f3 => ?_) (fun h14 I3 e3 go3 fo3 f3 => ?_)
    · rw [f3, if_neg (show ¬ nI 15 = nI c by rw [eqNN (by decide) (by omega)]; omega), if_neg (by decide)]
      exact q15 (Nat.lt_of_lt_of_le h15 (cr_fine hsub)) I3 (c1.tr e3) f3
    · rw [f3]
      have hle := cr_fine (R := R) (R' := alN to an K R) c9
      have h1 := cr_1 (R := alN to an K R) (n := i) (by omega)
      by_cases es : cr (alN to an K R) i = c
      · rw [if_pos (by rw [es])]
        have hcr : cr (alN to an K R) i = cr R i := by omega
        have hback := fine_same c2 hA c9 hcr
        have hst : ∀ x y, x < i → y < i → alN to an K R x y → alN to an K (alN to an K R) x y := fun x y hx hy h => alN_mono hc hback x y hx hy h
        have heq : ∀ x y, x < i → y < i → (alN to an K R x y ↔ eqN to an K x y) := fun x y hx hy => ⟨fun h w hw => al_eqN hc hst w x y hx hy h hw, hsub x y hx hy⟩
        have e1 := rel_cr heq
        rw [e1] at f3 h14 ⊢
        refine q h14 I3 (c1.tr e3) (fun j hj => ?_) (fun u r h => ?_) f3
        · rw [← rel_cls hA hE heq hj]; exact go3 j hj
        · rw [← rel_rpL heq] at h; exact fo3 u r h
      · rw [if_neg (by rw [eqNN (by omega) (by omega)]; exact es), if_pos (show nI (cr (alN to an K R) i) ≤ 14 by rw [l14, leNN (by omega) (by decide)]; exact h14), nI_1, forall_eq]
        exact ih2 (t + 1) I3 ⟨c1.tr e3, alN to an K R, cr (alN to an K R) i, hA, go3, f3, by omega, h14, Or.inr rfl, hsub, alN_mono hc c9⟩ (by omega)
  · rw [if_neg (show ¬ nI n ≤ nI i by rw [leNN (by omega) (by omega)]; omega), vpN (by omega), nI_clamp (by omega)]
    refine ⟨by omega, fun I2 e2 t et => ?_⟩
    rw [et, nI_1]
    refine ih (i + 1) I2 ⟨by omega, b2.tr ⟨fun j a b c d => by rw [e2, sI_n _ _ b], fun j hj => by rw [e2, sI_n _ _ (by decide)]⟩, fun j hj => ?_⟩ (by omega)
    rw [e2, sI_s, upd_at]
    by_cases hji : j = i
    · rw [if_pos hji]
    · rw [if_neg hji]; exact b3 j (by omega)
/-! how many signs are used -/
def isKs (n K : Nat) (to : Nat → Nat → Option Nat) (k : Nat) : Prop := 1 ≤ k ∧ (∀ i a, i < n → a < K → to i a ≠ none → a < k) ∧ (k = 1 ∨ ∃ i, i < n ∧ k - 1 < K ∧ to i (k - 1) ≠ none)
theorem isKs_u {n K : Nat} {to : Nat → Nat → Option Nat} {k k' : Nat} (h : isKs n K to k) (h' : isKs n K to k') : k = k' := by
  have key : ∀ {k k' : Nat}, isKs n K to k → isKs n K to k' → k ≤ k' := by
    intro k k' h h'
    rcases h.2.2 with e | ⟨i, h1, h2, h3⟩
    · have := h'.1; omega
    · have := h'.2.1 i (k - 1) h1 h2 h3
      have := h.1
      omega
  have a := key h h'
  have b := key h' h
  omega
theorem isKs_4 {n K : Nat} {to : Nat → Nat → Option Nat} {k : Nat} (h : isKs n K to k) (hK : 1 ≤ K) : k ≤ K := by
  have h1 := h.1
  rcases h.2.2 with e | ⟨i, _, h2, _⟩ <;> omega
theorem g_used {n K : Nat} {to : Nat → Nat → Option Nat} {an : Nat → Nat} {I : MI} {J : MJ} {Q : Int32 → MI → MJ → Prop} (g : GrS I n K to an) (q : ∀ k, isKs n K to k → Q (nI k) I J) : f_Chart_signsUsed I J Q := by
  obtain ⟨g1, g2, g0, g3, g4, g5, g6⟩ := id g
  unfold f_Chart_signsUsed
  refine lp2 (fun f (k : Nat) (i : Nat) => f_Chart_signsUsed_L4 _ f (nI k) (nI i) I J) (fun k i => i ≤ n ∧ k ≤ 4 ∧ isKs i K to k) (fun _ i => n - i) ?_ 1 0 ⟨Nat.zero_le _, by decide, Nat.le_refl _, (fun i a hi => absurd hi (Nat.not_lt_zero _)), Or.inl rfl⟩
  rintro f k i ⟨b1, b4, b2⟩ ih
  unfold f_Chart_signsUsed_L4
  rw [g1]
  by_cases ei : i = n
  · rw [if_pos (show nI n ≤ nI i by rw [ei, leNN (by omega) (by omega)]; omega)]
    subst ei
    exact q k b2
  · have hi : i < n := by omega
    rw [if_neg (show ¬ nI n ≤ nI i by rw [leNN (by omega) (by omega)]; omega)]
    refine lp2 (fun f (k2 : Nat) (a : Nat) => f_Chart_signsUsed_L14 (nI i) _ f (nI k2) (nI a) I J) (fun k2 a => 1 ≤ k2 ∧ k ≤ k2 ∧ k2 ≤ a ∧ a ≤ 4 ∧ (∀ b, b < a → b < K → to i b ≠ none → b < k2) ∧ (k2 = k ∨ (k2 - 1 < K ∧ to i (k2 - 1) ≠ none))) (fun _ a => 5 - a) ?_ k k ⟨b2.1, Nat.le_refl _, Nat.le_refl _, b4, fun b hb _ _ => hb, Or.inl rfl⟩
    rintro f2 k2 a ⟨c1, c2, c3, c4, c5, c6⟩ ih2
    unfold f_Chart_signsUsed_L14 f_Chart_signsUsed_b40
    rw [g3]
    by_cases ea : K ≤ a
    · rw [if_pos (show nI K ≤ nI a by rw [leNN (by omega) (by omega)]; exact ea), nI_1, forall_eq]
      refine ih k2 (i + 1) ⟨by omega, by omega, c1, fun i' a' hi' ha' hn => ?_, ?_⟩ (by omega)
      · by_cases hii : i' = i
        · rw [hii] at hn; exact c5 a' (by omega) ha' hn
        · have := b2.2.1 i' a' (by omega) ha' hn; omega
      · rcases c6 with e | ⟨e1, e2⟩
        · rcases b2.2.2 with e' | ⟨i', h1, h2, h3⟩
          · exact Or.inl (by omega)
          · exact Or.inr ⟨i', by omega, by rw [e]; exact h2, by rw [e]; exact h3⟩
        · exact Or.inr ⟨i, by omega, e1, e2⟩
    · have c := g6 i a hi (by omega)
      rw [if_neg (show ¬ nI K ≤ nI a by rw [leNN (by omega) (by omega)]; omega), l4, pk_mul, nI_add, vpN (by omega), nI_clamp (by omega), c.1]
      refine ⟨by omega, ?_⟩
      cases ht : to i a with
      | none =>
        rw [if_pos (show enO none = -1 from rfl), nI_1, forall_eq]
        refine ih2 k2 (a + 1) ⟨c1, c2, by omega, by omega, fun b hb hbK hn => ?_, c6⟩ (by omega)
        by_cases hba : b = a
        · rw [hba] at hn; exact absurd ht hn
        · exact c5 b (by omega) hbK hn
      | some j =>
        have := c.2 j ht
        rw [if_neg (show ¬ enO (some j) = -1 from lm1 (by omega)), nI_1, forall_eq, forall_eq]
        exact ih2 (a + 1) (a + 1) ⟨by omega, by omega, by omega, by omega, fun b hb hbK hn => by omega, Or.inr ⟨by omega, by rw [show a + 1 - 1 = a by omega, ht]; simp⟩⟩ (by omega)
