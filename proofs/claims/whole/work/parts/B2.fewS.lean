/-! fewest, the class: signs, answers, order, how many tables -/
noncomputable section
def kK (ks : List (Int64 × Nat)) : Nat := by classical exact if h : ∃ k, isKk ks k then Classical.choose h else 1
end
theorem kK_eq {ks : List (Int64 × Nat)} {k : Nat} (h : isKk ks k) : kK ks = k := by
  have hex : ∃ k, isKk ks k := ⟨k, h⟩
  unfold kK
  rw [dif_pos hex]
  exact isKk_u (Classical.choose_spec hex) h
theorem s_signs_in {ks : List (Int64 × Nat)} {i k0 : Nat} {q : Int64 × Nat} {I : MI} {J : MJ} {kk : Int32 → MI → MJ → Prop} (h : KnS I J ks) (hq : ks[i]? = some q) (h1 : 1 ≤ k0) (h4 : k0 ≤ 4) (k : ∀ k', k0 ≤ k' → k' ≤ 4 → (∀ a ∈ wdW q.1, a < k') → (k' = k0 ∨ ∃ a ∈ wdW q.1, a + 1 = k') → kk (nI k') I J) : ∃ n, f_Known_signsUsed_L14 (nI i) kk n (nI k0) 0 I J := by
  obtain ⟨hi, hw, h7, e1, e2, e3⟩ := h.at' hq
  have h30 := hw.1
  generalize wdW q.1 = w at *
  refine lp2 (fun n (k' b : Nat) => f_Known_signsUsed_L14 (nI i) kk n (nI k') (nI b) I J) (fun k' b => b ≤ w.length ∧ k0 ≤ k' ∧ k' ≤ 4 ∧ (∀ c, w.length - b ≤ c → ∀ a, w[c]? = some a → a < k') ∧ (k' = k0 ∨ ∃ a ∈ w, a + 1 = k')) (fun _ b => w.length - b) ?_ k0 0 ⟨Nat.zero_le _, Nat.le_refl _, h4, (fun c hc a ha => by have := (List.getElem?_eq_some_iff.mp ha).1; omega), Or.inl rfl⟩
  rintro n k' b ⟨b1, b2, b3, b4, b5⟩ ih
  unfold f_Known_signsUsed_L14
  rw [vpN (by omega), nI_clamp (by omega), e3]
  refine ⟨hi, ?_⟩
  by_cases eb : b = w.length
  · rw [if_pos (by rw [eb, leNN (by omega) (by omega)]; exact Nat.le_refl _)]
    refine k k' b2 b3 (fun a ha => ?_) b5
    obtain ⟨c, hc⟩ := List.mem_iff_getElem?.mp ha
    exact b4 c (by omega) a hc
  · have hg := List.getElem?_eq_getElem (show w.length - 1 - b < w.length by omega)
    generalize w[w.length - 1 - b] = a at hg
    have ha := hw.2 a (List.mem_of_getElem? hg)
    rw [if_neg (by rw [leNN (by omega) (by omega)]; omega), e1, s_sign hw (by omega) hg, nI_1, nI_1]
    refine ⟨hi, ?_⟩
    have next : ∀ k2 : Nat, k' ≤ k2 → k2 ≤ 4 → a < k2 → (k2 = k' ∨ a + 1 = k2) → f_Known_signsUsed_L14 (nI i) kk n (nI k2) (nI (b + 1)) I J := fun k2 c1 c2 c3 c4 => by
      refine ih k2 (b + 1) ⟨by omega, by omega, c2, fun c hc x hx => ?_, ?_⟩ (by omega)
      · by_cases hcc : c = w.length - 1 - b
        · subst hcc; rw [hg] at hx; cases hx; exact c3
        · have := b4 c (by omega) x hx; omega
      · rcases c4 with c4 | c4
        · rw [c4]; exact b5
        · exact Or.inr ⟨a, List.mem_of_getElem? hg, c4⟩
    intro t et u eu
    rw [et, eu]
    by_cases c : k' < a + 1
    · rw [if_pos (by rw [ltNN (by omega) (by omega)]; exact c)]
      exact next (a + 1) (by omega) (by omega) (by omega) (Or.inr rfl)
    · rw [if_neg (by rw [ltNN (by omega) (by omega)]; exact c)]
      exact next k' (Nat.le_refl _) b3 (by omega) (Or.inl rfl)
theorem s_signs {ks : List (Int64 × Nat)} {I : MI} {J : MJ} {Q : Int32 → MI → MJ → Prop} (h : KnS I J ks) (q : ∀ k, isKk ks k → Q (nI k) I J) : f_Known_signsUsed I J Q := by
  unfold f_Known_signsUsed
  have h12 := h.1.1
  refine lp2 (fun n (k i : Nat) => f_Known_signsUsed_L4 _ n (nI k) (nI i) I J) (fun k i => i ≤ ks.length ∧ 1 ≤ k ∧ k ≤ 4 ∧ (∀ (j : Nat) (z : Int64 × Nat), j < i → ks[j]? = some z → ∀ a ∈ wdW z.1, a < k) ∧ (k = 1 ∨ ∃ z ∈ ks, ∃ a ∈ wdW z.1, a + 1 = k)) (fun _ i => ks.length - i) ?_ 1 0 ⟨Nat.zero_le _, Nat.le_refl _, by decide, (fun j z hj => absurd hj (Nat.not_lt_zero _)), Or.inl rfl⟩
  rintro n k i ⟨b1, b2, b3, b4, b5⟩ ih
  unfold f_Known_signsUsed_L4
  rw [h.2.1]
  by_cases ei : i = ks.length
  · rw [if_pos (by rw [ei, leNN (by omega) (by omega)]; exact Nat.le_refl _)]
    refine q k ⟨b2, b3, fun z hz => ?_, b5⟩
    obtain ⟨j, hj⟩ := List.mem_iff_getElem?.mp hz
    exact b4 j z (by have := (List.getElem?_eq_some_iff.mp hj).1; omega) hj
  · have hg := List.getElem?_eq_getElem (show i < ks.length by omega)
    generalize ks[i] = z at hg
    rw [if_neg (by rw [leNN (by omega) (by omega)]; omega)]
    refine s_signs_in h hg b2 b3 (fun k' c1 c2 c3 c4 t et => ?_)
    rw [et, nI_1 i]
    refine ih k' (i + 1) ⟨by omega, by omega, c2, fun j y hj hy a ha => ?_, ?_⟩ (by omega)
    · by_cases hji : j = i
      · subst hji; rw [hg] at hy; cases hy; exact c3 a ha
      · have := b4 j y (by omega) hy a ha; omega
    · rcases c4 with c4 | ⟨a, ha, e⟩
      · rw [c4]; exact b5
      · exact Or.inr ⟨z, List.mem_of_getElem? hg, a, ha, e⟩
/-! how many unlike answers -/
def bcI (x0 : Int32) : Int32 :=
  let t9 := x0 - (((x0.toUInt32 >>> ((1 : Int32).toUInt32 &&& Int32.toUInt32 31)).toInt32) &&& 1431655765)
  let t23 := (t9 &&& 858993459) + (((t9.toUInt32 >>> ((2 : Int32).toUInt32 &&& Int32.toUInt32 31)).toInt32) &&& 858993459)
  let t33 := (t23 + ((t23.toUInt32 >>> ((4 : Int32).toUInt32 &&& Int32.toUInt32 31)).toInt32)) &&& 252645135
  let t40 := t33 + ((t33.toUInt32 >>> ((8 : Int32).toUInt32 &&& Int32.toUInt32 31)).toInt32)
  let t47 := t40 + ((t40.toUInt32 >>> ((16 : Int32).toUInt32 &&& Int32.toUInt32 31)).toInt32)
  t47 &&& 63
def pcL (M : Nat) : List Nat := (List.range 8).filter (fun v => M.testBit v)
theorem bc_all : ∀ M, M < 256 → bcI (nI M) = nI (pcL M).length := by decide +kernel
theorem s_bc {M : Nat} {I : MI} {J : MJ} {Q : Int32 → MI → MJ → Prop} (h : M < 256) (q : Q (nI (pcL M).length) I J) : f_Integer_bitCount (nI M) I J Q := by
  rw [← bc_all M h] at q
  unfold f_Integer_bitCount
  intro t1 e1 t2 e2 t3 e3 t4 e4 t5 e5
  subst e5 e4 e3 e2 e1
  exact q
theorem pcL_le {M n : Nat} {f : Nat → Nat} (h1 : ∀ v, v < 8 → M.testBit v = true → f v < n) (h2 : ∀ v u, v < 8 → u < 8 → M.testBit v = true → M.testBit u = true → f v = f u → v = u) : (pcL M).length ≤ n := by
  have hnd : (pcL M).Nodup := List.Pairwise.filter _ List.nodup_range
  have hm : ∀ v ∈ pcL M, v < 8 ∧ M.testBit v = true := fun v hv => by
    obtain ⟨a, b⟩ := List.mem_filter.mp hv
    exact ⟨List.mem_range.mp a, b⟩
  have hg : ∀ i, i < (pcL M).length → ∃ v, (pcL M)[i]? = some v ∧ (pcL M).getD i 0 = v := fun i hi => ⟨_, List.getElem?_eq_getElem hi, by simp [List.getD, List.getElem?_eq_getElem hi]⟩
  refine php n (pcL M).length (fun i => f ((pcL M).getD i 0)) (fun i hi => ?_) (fun i j hi hj e => ?_)
  · obtain ⟨v, v1, v2⟩ := hg i hi
    show f ((pcL M).getD i 0) < n
    rw [v2]
    obtain ⟨a, b⟩ := hm v (List.mem_of_getElem? v1)
    exact h1 v a b
  · obtain ⟨v, v1, v2⟩ := hg i hi
    obtain ⟨u, u1, u2⟩ := hg j hj
    have e' : f ((pcL M).getD i 0) = f ((pcL M).getD j 0) := e
    rw [v2, u2] at e'
    obtain ⟨a, b⟩ := hm v (List.mem_of_getElem? v1)
    obtain ⟨a', b'⟩ := hm u (List.mem_of_getElem? u1)
    have euv := h2 v u a a' b b' e'
    subst euv
    rcases Nat.lt_trichotomy i j with hl | hl | hl
    · have := (List.pairwise_iff_getElem.mp hnd) i j hi hj hl
      rw [List.getElem?_eq_getElem hi] at v1
      rw [List.getElem?_eq_getElem hj] at u1
      exact absurd ((Option.some.inj v1).trans (Option.some.inj u1).symm) this
    · exact hl
    · have := (List.pairwise_iff_getElem.mp hnd) j i hj hi hl
      rw [List.getElem?_eq_getElem hi] at v1
      rw [List.getElem?_eq_getElem hj] at u1
      exact absurd ((Option.some.inj u1).trans (Option.some.inj v1).symm) this
/-- what d unlike answers need -/
def needs (ks : List (Int64 × Nat)) (d : Nat) : Prop := d ≤ 8 ∧ ∀ k n T, vT n (n * k) T → 0 < n → (∀ q ∈ ks, ∀ a ∈ wdW q.1, a < k) → RgT ks k T → d ≤ n
theorem s_unl {ks : List (Int64 × Nat)} {I : MI} {J : MJ} {Q : Int32 → MI → MJ → Prop} (h : KnS I J ks) (q : ∀ d, needs ks d → Q (nI d) I J) : f_Known_unlikeAnswers I J Q := by
  unfold f_Known_unlikeAnswers
  have h12 := h.1.1
  refine lp2 (fun n (M i : Nat) => f_Known_unlikeAnswers_L4 _ n (nI M) (nI i) I J) (fun M i => i ≤ ks.length ∧ M < 256 ∧ ∀ v, M.testBit v = true → ∃ z ∈ ks, z.2 = v) (fun _ i => ks.length - i) ?_ 0 0 ⟨Nat.zero_le _, by decide, (fun v hv => by simp at hv)⟩
  rintro n M i ⟨b1, b2, b3⟩ ih
  unfold f_Known_unlikeAnswers_L4
  rw [h.2.1]
  by_cases ei : i = ks.length
  · rw [if_pos (by rw [ei, leNN (by omega) (by omega)]; exact Nat.le_refl _)]
    refine s_bc b2 (q _ ⟨?_, fun k n T hT h0 hs hR => ?_⟩)
    · have := List.length_filter_le (fun v => M.testBit v) (List.range 8)
      rw [List.length_range] at this
      exact this
    · have hch : ∀ v, M.testBit v = true → ∃ z : Int64 × Nat, z ∈ ks ∧ z.2 = v := fun v hv => by obtain ⟨z, z1, z2⟩ := b3 v hv; exact ⟨z, z1, z2⟩
      refine pcL_le (f := fun v => by classical exact if hv : M.testBit v = true then eT k T 0 (wdW (Classical.choose (hch v hv)).1) else 0) (fun v _ hv => ?_) (fun v u _ _ hv hu e => ?_)
      · simp only [dif_pos hv]
        have hs' := Classical.choose_spec (hch v hv)
        exact eT_lt hT _ 0 h0 (hs _ hs'.1)
      · simp only [dif_pos hv, dif_pos hu] at e
        have hs1 := Classical.choose_spec (hch v hv)
        have hs2 := Classical.choose_spec (hch u hu)
        by_cases hx : v = u
        · exact hx
        · exact absurd e (hR _ hs1.1 _ hs2.1 (by rw [hs1.2, hs2.2]; exact hx))
  · have hg := List.getElem?_eq_getElem (show i < ks.length by omega)
    generalize ks[i] = z at hg
    obtain ⟨hi, hw, h7, e1, e2, e3⟩ := h.at' hg
    rw [if_neg (by rw [leNN (by omega) (by omega)]; omega), vpN (by omega), nI_clamp (by omega), e2, jb_shl (by omega), jb_or, nI_1]
    refine ⟨hi, fun t et u eu => ?_⟩
    rw [et, eu]
    have hp : 2 ^ z.2 < 2 ^ 8 := Nat.pow_lt_pow_right (by decide) (by omega)
    refine ih (M ||| 2 ^ z.2) (i + 1) ⟨by omega, Nat.or_lt_two_pow (n := 8) b2 hp, fun v hv => ?_⟩ (by omega)
    rw [Nat.testBit_or, Bool.or_eq_true, Nat.testBit_two_pow] at hv
    rcases hv with hv | hv
    · exact b3 v hv
    · exact ⟨z, List.mem_of_getElem? hg, by simpa using hv⟩
/-! the order in which words are run: each is there -/
def OrS (I : MI) (m : Nat) : Prop := (∀ p, p < m → ∃ v, v < m ∧ I 55 p = nI v) ∧ ∀ v, v < m → ∃ p, p < m ∧ I 55 p = nI v
theorem s_sort_in {ks : List (Int64 × Nat)} {i : Nat} {I : MI} {J : MJ} {kk : Int32 → MI → MJ → Prop} (h : KnS I J ks) (hi : i < ks.length) (ho : OrS I i) (k : ∀ at' I', at' ≤ i → (∀ c, c ≠ 55 → I' c = I c) → (∀ p, p ≤ i → p ≠ at' → ∃ v, v < i ∧ I' 55 p = nI v) → (∀ v, v < i → ∃ p, p ≤ i ∧ p ≠ at' ∧ I' 55 p = nI v) → kk (nI at') I' J) : ∃ n, f_Known_sortWords_L12 (nI i) kk n (nI i) I J := by
  have h12 := h.1.1
  refine lp2 (fun n (a : Nat) (I1 : MI) => f_Known_sortWords_L12 (nI i) kk n (nI a) I1 J) (fun a I1 => a ≤ i ∧ (∀ c, c ≠ 55 → I1 c = I c) ∧ (∀ p, p ≤ i → p ≠ a → ∃ v, v < i ∧ I1 55 p = nI v) ∧ ∀ v, v < i → ∃ p, p ≤ i ∧ p ≠ a ∧ I1 55 p = nI v) (fun a _ => a) ?_ i I ⟨Nat.le_refl _, fun _ _ => rfl, (fun p hp hne => ho.1 p (by omega)), (fun v hv => by obtain ⟨p, p1, p2⟩ := ho.2 v hv; exact ⟨p, by omega, by omega, p2⟩)⟩
  rintro n a I1 ⟨b1, b2, b3, b4⟩ ih
  unfold f_Known_sortWords_L12
  by_cases ea : a = 0
  · rw [if_pos (by rw [ea]; decide)]
    exact k a I1 b1 b2 b3 b4
  · obtain ⟨b, rfl⟩ : ∃ b, a = b + 1 := ⟨a - 1, by omega⟩
    obtain ⟨v, v1, v2⟩ := b3 b (by omega) (by omega)
    rw [if_neg (by rw [l0, leNN (by omega) (by decide)]; omega), nI_pred, vpN (by omega), nI_clamp (by omega), v2, vpN (by omega), nI_clamp (by omega), vpN (by omega), nI_clamp (by omega)]
    refine ⟨by omega, by omega, by omega, ?_⟩
    by_cases hc : J 53 v ≤ J 53 i
    · rw [if_pos hc]
      exact k (b + 1) I1 b1 b2 b3 b4
    · rw [if_neg hc, vpN (by omega), nI_clamp (by omega)]
      refine ⟨by omega, by omega, fun I2 e2 t et => ?_⟩
      rw [et, m1_add, nI_pred]
      have m5 : ∀ p, I2 55 p = if p = b + 1 then nI v else I1 55 p := fun p => by rw [e2, sI_s, upd_at]
      refine ih b I2 ⟨by omega, fun c hc => by rw [e2, sI_n _ _ hc, b2 c hc], fun p hp hne => ?_, fun u hu => ?_⟩ (by omega)
      · rw [m5]
        by_cases hpb : p = b + 1
        · rw [if_pos hpb]; exact ⟨v, v1, rfl⟩
        · rw [if_neg hpb]; exact b3 p hp hpb
      · obtain ⟨p, p1, p2, p3⟩ := b4 u hu
        by_cases hpb : p = b
        · refine ⟨b + 1, by omega, by omega, ?_⟩
          rw [m5, if_pos rfl, ← p3, hpb, v2]
        · exact ⟨p, p1, hpb, by rw [m5, if_neg p2]; exact p3⟩
theorem s_sort {ks : List (Int64 × Nat)} {I : MI} {J : MJ} {Q : MI → MJ → Prop} (h : KnS I J ks) (q : ∀ I', (∀ c, c ≠ 55 → I' c = I c) → OrS I' ks.length → Q I' J) : f_Known_sortWords I J Q := by
  unfold f_Known_sortWords
  have h12 := h.1.1
  refine lp2 (fun n (i : Nat) (I1 : MI) => f_Known_sortWords_L2 _ n (nI i) I1 J) (fun i I1 => i ≤ ks.length ∧ (∀ c, c ≠ 55 → I1 c = I c) ∧ OrS I1 i) (fun i _ => ks.length - i) ?_ 0 I ⟨Nat.zero_le _, fun _ _ => rfl, (fun p hp => absurd hp (Nat.not_lt_zero _)), (fun p hp => absurd hp (Nat.not_lt_zero _))⟩
  rintro n i I1 ⟨b1, b2, b3⟩ ih
  have h1 : KnS I1 J ks := by
    unfold KnS at *
    rw [b2 52 (by decide), b2 54 (by decide), b2 56 (by decide)]
    exact h
  unfold f_Known_sortWords_L2
  rw [h1.2.1]
  by_cases ei : i = ks.length
  · rw [if_pos (by rw [ei, leNN (by omega) (by omega)]; exact Nat.le_refl _)]
    subst ei
    exact q I1 b2 b3
  · rw [if_neg (by rw [leNN (by omega) (by omega)]; omega)]
    refine s_sort_in h1 (by omega) b3 (fun a I2 c1 c2 c3 c4 => ?_)
    unfold f_Known_sortWords_b59
    rw [vpN (by omega), nI_clamp (by omega)]
    refine ⟨by omega, fun I3 e3 t et => ?_⟩
    rw [et, nI_1 i]
    have m5 : ∀ p, I3 55 p = if p = a then nI i else I2 55 p := fun p => by rw [e3, sI_s, upd_at]
    refine ih (i + 1) I3 ⟨by omega, fun c hc => by rw [e3, sI_n _ _ hc, c2 c hc, b2 c hc], fun p hp => ?_, fun v hv => ?_⟩ (by omega)
    · rw [m5]
      by_cases hpa : p = a
      · rw [if_pos hpa]; exact ⟨i, by omega, rfl⟩
      · rw [if_neg hpa]
        obtain ⟨v, v1, v2⟩ := c3 p (by omega) hpa
        exact ⟨v, by omega, v2⟩
    · by_cases hvi : v = i
      · exact ⟨a, by omega, by rw [m5, if_pos rfl, hvi]⟩
      · obtain ⟨p, p1, p2, p3⟩ := c4 v (by omega)
        exact ⟨p, by omega, by rw [m5, if_neg p2]; exact p3⟩
/-! how many tables there are -/
theorem pow_small {n N : Nat} (hn : n ≤ 15) (i : Nat) (h : n ^ i ≤ 20000) : n ^ (i + 1) ≤ 300000 := by
  rw [Nat.pow_succ]
  have := Nat.mul_le_mul h hn
  omega
theorem l20k (m : Nat) (hm : m < 2 ^ 63) : ((20000 : Int64) < lN m) = (20000 < m) := by
  rw [show (20000 : Int64) = lN 20000 from rfl]
  exact propext (pk_lLT (by decide) hm)
theorem pow_up {n i N : Nat} (h1 : 1 ≤ n) (hi : i ≤ N) : n ^ i ≤ n ^ N := Nat.pow_le_pow_right h1 hi
theorem s_few {n k : Nat} {I : MI} {J : MJ} {Q : Int32 → MI → MJ → Prop} (hn1 : 1 ≤ n) (hn : n ≤ 14) (hk : k ≤ 4) (q1 : n ^ (n * k) ≤ 20000 → Q 1 I J) (q0 : 20000 < n ^ (n * k) → Q 0 I J) : f_Known_tablesAreFew (nI n) (nI k) I J Q := by
  unfold f_Known_tablesAreFew
  have hN : n * k ≤ 56 := Nat.mul_le_mul hn hk
  refine lp1 (fun f (i : Nat) => f_Known_tablesAreFew_L5 (nI n) (nI k) _ f (lN (n ^ i)) (nI i) I J) (fun i => i ≤ n * k ∧ n ^ i ≤ 300000) (fun i => n * k - i) ?_ 0 ⟨Nat.zero_le _, by simp⟩
  rintro f i ⟨b1, b2⟩ ih
  unfold f_Known_tablesAreFew_L5 f_Known_tablesAreFew_b32
  rw [pk_mul]
  by_cases ei : i = n * k
  · rw [if_pos (by rw [ei, leNN (by omega) (by omega)]; exact Nat.le_refl _)]
    subst ei
    by_cases hc : 20000 < n ^ (n * k)
    · rw [if_pos (by rw [l20k _ (by omega)]; exact hc)]; exact q0 hc
    · rw [if_neg (by rw [l20k _ (by omega)]; exact hc)]; exact q1 (by omega)
  · rw [if_neg (by rw [leNN (by omega) (by omega)]; omega)]
    by_cases hc : 20000 < n ^ i
    · rw [if_pos (by rw [l20k _ (by omega)]; exact hc), if_pos (by rw [l20k _ (by omega)]; exact hc)]
      exact q0 (Nat.lt_of_lt_of_le hc (pow_up hn1 b1))
    · rw [if_neg (by rw [l20k _ (by omega)]; exact hc), nI_l (by omega), lN_mul, ← Nat.pow_succ, nI_1, forall_eq, forall_eq]
      exact ih (i + 1) ⟨by omega, pow_small (N := 0) (by omega) i (by omega)⟩ (by omega)
