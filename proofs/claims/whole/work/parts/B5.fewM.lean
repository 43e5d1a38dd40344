/-! fewest, the reference: signs, right tables, the next table -/
theorem m_signs_in {ks : List (Int64 × Nat)} {i k0 : Nat} {q : Int64 × Nat} {I : MI} {J : MJ} {kk : Int32 → MI → MJ → Prop} (h : KnM I J ks) (hq : ks[i]? = some q) (h1 : 1 ≤ k0) (h4 : k0 ≤ 4) (k : ∀ k', k0 ≤ k' → k' ≤ 4 → (∀ a ∈ wdW q.1, a < k') → (k' = k0 ∨ ∃ a ∈ wdW q.1, a + 1 = k') → kk (nI k') I J) : ∃ n, f_Model_knownSigns_L25 (nI i) (nI (wdW q.1).length) kk n (nI k0) 0 I J := by
  obtain ⟨hi, hw, h7, e1, e2⟩ := h.at' hq
  have h30 := hw.1
  generalize wdW q.1 = w at *
  refine lp2 (fun n (k' b : Nat) => f_Model_knownSigns_L25 (nI i) (nI w.length) kk n (nI k') (nI b) I J) (fun k' b => b ≤ w.length ∧ k0 ≤ k' ∧ k' ≤ 4 ∧ (∀ c, c < b → ∀ a, w[c]? = some a → a < k') ∧ (k' = k0 ∨ ∃ a ∈ w, a + 1 = k')) (fun _ b => w.length - b) ?_ k0 0 ⟨Nat.zero_le _, Nat.le_refl _, h4, (fun c hc => absurd hc (Nat.not_lt_zero _)), Or.inl rfl⟩
  rintro n k' b ⟨b1, b2, b3, b4, b5⟩ ih
  unfold f_Model_knownSigns_L25
  by_cases eb : b = w.length
  · rw [if_pos (by rw [eb, leNN (by omega) (by omega)]; exact Nat.le_refl _)]
    refine k k' b2 b3 (fun a ha => ?_) b5
    obtain ⟨c, hc⟩ := List.mem_iff_getElem?.mp ha
    exact b4 c (by have := (List.getElem?_eq_some_iff.mp hc).1; omega) a hc
  · have hg := List.getElem?_eq_getElem (show b < w.length by omega)
    generalize w[b] = a at hg
    have ha := hw.2 a (List.mem_of_getElem? hg)
    rw [if_neg (by rw [leNN (by omega) (by omega)]; omega), vpN (by omega), nI_clamp (by omega), e1, m_sign hw hg]
    refine ⟨hi, ?_⟩
    have next : ∀ k2 : Nat, k' ≤ k2 → k2 ≤ 4 → a < k2 → (k2 = k' ∨ a + 1 = k2) → f_Model_knownSigns_L25 (nI i) (nI w.length) kk n (nI k2) (nI (b + 1)) I J := fun k2 c1 c2 c3 c4 => by
      refine ih k2 (b + 1) ⟨by omega, by omega, c2, fun c hc x hx => ?_, ?_⟩ (by omega)
      · by_cases hcc : c = b
        · subst hcc; rw [hg] at hx; cases hx; exact c3
        · have := b4 c (by omega) x hx; omega
      · rcases c4 with c4 | c4
        · rw [c4]; exact b5
        · exact Or.inr ⟨a, List.mem_of_getElem? hg, c4⟩
    unfold f_Model_knownSigns_b59
    by_cases c : a < k'
    · rw [if_pos (by rw [ltNN (by omega) (by omega)]; exact c)]
      intro t et
      rw [et, nI_1]
      exact next k' (Nat.le_refl _) b3 c (Or.inl rfl)
    · rw [if_neg (by rw [ltNN (by omega) (by omega)]; exact c)]
      intro t et
      rw [et, nI_1, nI_1]
      exact next (a + 1) (by omega) (by omega) (by omega) (Or.inr rfl)
theorem m_signs {ks : List (Int64 × Nat)} {I : MI} {J : MJ} {Q : Int32 → MI → MJ → Prop} (h : KnM I J ks) (q : ∀ k, isKk ks k → Q (nI k) I J) : f_Model_knownSigns I J Q := by
  unfold f_Model_knownSigns
  have h12 := h.1.1
  refine lp2 (fun n (k i : Nat) => f_Model_knownSigns_L4 _ n (nI k) (nI i) I J) (fun k i => i ≤ ks.length ∧ 1 ≤ k ∧ k ≤ 4 ∧ (∀ (j : Nat) (z : Int64 × Nat), j < i → ks[j]? = some z → ∀ a ∈ wdW z.1, a < k) ∧ (k = 1 ∨ ∃ z ∈ ks, ∃ a ∈ wdW z.1, a + 1 = k)) (fun _ i => ks.length - i) ?_ 1 0 ⟨Nat.zero_le _, Nat.le_refl _, by decide, (fun j z hj => absurd hj (Nat.not_lt_zero _)), Or.inl rfl⟩
  rintro n k i ⟨b1, b2, b3, b4, b5⟩ ih
  unfold f_Model_knownSigns_L4
  rw [h.2.1]
  by_cases ei : i = ks.length
  · rw [if_pos (by rw [ei, leNN (by omega) (by omega)]; exact Nat.le_refl _)]
    refine q k ⟨b2, b3, fun z hz => ?_, b5⟩
    obtain ⟨j, hj⟩ := List.mem_iff_getElem?.mp hz
    exact b4 j z (by have := (List.getElem?_eq_some_iff.mp hj).1; omega) hj
  · have hg := List.getElem?_eq_getElem (show i < ks.length by omega)
    generalize ks[i] = z at hg
    have kz := h.at' hg
    rw [if_neg (by rw [leNN (by omega) (by omega)]; omega), vpN (by omega), nI_clamp (by omega), kz.2.2.2.1]
    refine ⟨by omega, m_len kz.2.1 (m_signs_in h hg b2 b3 (fun k' c1 c2 c3 c4 t et => ?_))⟩
    rw [et, nI_1 i]
    refine ih k' (i + 1) ⟨by omega, by omega, c2, fun j y hj hy a ha => ?_, ?_⟩ (by omega)
    · by_cases hji : j = i
      · subst hji; rw [hg] at hy; cases hy; exact c3 a ha
      · have := b4 j y (by omega) hy a ha; omega
    · rcases c4 with c4 | ⟨a, ha, e⟩
      · rw [c4]; exact b5
      · exact Or.inr ⟨z, List.mem_of_getElem? hg, a, ha, e⟩
theorem m_small {n k : Nat} {I : MI} {J : MJ} {Q : Int32 → MI → MJ → Prop} (hn1 : 1 ≤ n) (hn : n ≤ 14) (hk : k ≤ 4) (q1 : n ^ (n * k) ≤ 20000 → Q 1 I J) (q0 : 20000 < n ^ (n * k) → Q 0 I J) : f_Model_isSmall (nI n) (nI (n * k)) I J Q := by
  unfold f_Model_isSmall
  have hN : n * k ≤ 56 := Nat.mul_le_mul hn hk
  refine lp1 (fun f (i : Nat) => f_Model_isSmall_L5 (nI n) (nI (n * k)) _ f (lN (n ^ i)) (nI i) I J) (fun i => i ≤ n * k ∧ n ^ i ≤ 300000) (fun i => n * k - i) ?_ 0 ⟨Nat.zero_le _, by simp⟩
  rintro f i ⟨b1, b2⟩ ih
  unfold f_Model_isSmall_L5 f_Model_isSmall_b30
  by_cases ei : i = n * k
  · rw [if_pos (by rw [ei, leNN (by omega) (by omega)]; exact Nat.le_refl _)]
    subst ei
    by_cases hc : 20000 < n ^ (n * k)
    · rw [if_pos (by rw [l20k _ (by omega)]; exact hc)]; exact q0 hc
    · rw [if_neg (by rw [l20k _ (by omega)]; exact hc)]; exact q1 (by omega)
  · rw [if_neg (by rw [leNN (by omega) (by omega)]; omega)]
    by_cases hc : 20000 < n ^ i
    · rw [if_pos (by rw [l20k _ (by omega)]; exact hc), if_pos (by rw [l20k _ (by omega)]; exact hc)]
      exact q0 (Nat.lt_of_lt_of_le hc (pow_up hn1 b1))
    · rw [if_neg (by rw [l20k _ (by omega)]; exact hc), nI_l (by omega), lN_mul, ← Nat.pow_succ, nI_1, forall_eq, forall_eq]
      exact ih (i + 1) ⟨by omega, pow_small (N := 0) (by omega) i (by omega)⟩ (by omega)
def TbR (I : MI) (T : Nat → Nat) (N : Nat) : Prop := ∀ c, c < N → I 219 c = nI (T c)
def kpM (I I' : MI) : Prop := ∀ c, c ≠ 219 → c ≠ 220 → I' c = I c
theorem kpM.rf {I : MI} : kpM I I := fun _ _ _ => rfl
theorem kpM.tr {I I' I'' : MI} (h : kpM I I') (h' : kpM I' I'') : kpM I I'' := fun c a b => (h' c a b).trans (h c a b)
theorem kpM.kn {I I' : MI} {J : MJ} {ks : List (Int64 × Nat)} (h : kpM I I') (hk : KnM I J ks) : KnM I' J ks := by
  unfold KnM at *
  rw [h 177 (by decide) (by decide), h 218 (by decide) (by decide)]
  exact hk
theorem m_runT {ks : List (Int64 × Nat)} {i k n : Nat} {T : Nat → Nat} {q : Int64 × Nat} {I : MI} {J : MJ} {kk : Int32 → MI → MJ → Prop} (h : KnM I J ks) (hq : ks[i]? = some q) (hN : n * k ≤ 56) (h0 : 0 < n) (hT : vT n (n * k) T) (hn : n ≤ 14) (hk : k ≤ 4) (hI : TbR I T (n * k)) (hs : ∀ a ∈ wdW q.1, a < k) (r : kk (nI (eT k T 0 (wdW q.1))) I J) : ∃ f, f_Model_isRight_L33 (nI k) (nI i) (nI (wdW q.1).length) kk f 0 0 I J := by
  obtain ⟨hi, hw, h7, e1, e2⟩ := h.at' hq
  have h30 := hw.1
  generalize wdW q.1 = w at *
  refine lp2 (fun f (s j : Nat) => f_Model_isRight_L33 (nI k) (nI i) (nI w.length) kk f (nI s) (nI j) I J) (fun s j => j ≤ w.length ∧ s < n ∧ eT k T 0 w = eT k T s (w.drop j)) (fun _ j => w.length - j) ?_ 0 0 ⟨Nat.zero_le _, h0, rfl⟩
  rintro f s j ⟨b1, b2, b4⟩ ih
  unfold f_Model_isRight_L33
  by_cases ej : j = w.length
  · rw [if_pos (by rw [ej, leNN (by omega) (by omega)]; exact Nat.le_refl _)]
    rw [ej, List.drop_length] at b4
    have b4' : eT k T 0 w = s := b4
    rw [b4'] at r
    exact r
  · have hg : w[j]? = some (w[j]'(by omega)) := List.getElem?_eq_getElem (by omega)
    have hd : w.drop j = w[j]'(by omega) :: w.drop (j + 1) := List.drop_eq_getElem_cons (by omega)
    generalize w[j]'(by omega) = a at hg hd
    have ha := hs a (List.mem_of_getElem? hg)
    have hc := cell_lt b2 ha
    have hc' : k * s + a = s * k + a := by rw [Nat.mul_comm]
    rw [if_neg (by rw [leNN (by omega) (by omega)]; omega), vpN (by omega), nI_clamp (by omega), e1, m_sign hw hg, pk_mul, nI_add, hc', vpN (by omega), nI_clamp (by omega), hI _ hc, nI_1, forall_eq, forall_eq]
    rw [hd, eT_c] at b4
    exact ⟨hi, by omega, ih (T (s * k + a)) (j + 1) ⟨by omega, hT _ hc, b4⟩ (by omega)⟩
theorem m_right_in {ks : List (Int64 × Nat)} {p : Nat} {g : Nat → Nat} {z : Int64 × Nat} {I : MI} {J : MJ} {kk : Int32 → MI → MJ → Prop} (h : KnM I J ks) (hz : ks[p]? = some z) (hg : ∀ v, v ≤ p → g v < 2 ^ 31) (he : ∀ u, u < p → I 220 u = nI (g u)) (q1 : (∀ (u : Nat) (y : Int64 × Nat), u < p → ks[u]? = some y → z.2 ≠ y.2 → g p ≠ g u) → kk 1 I J) (q0 : ∀ (u : Nat) (y : Int64 × Nat), u < p → ks[u]? = some y → z.2 ≠ y.2 → g p = g u → kk 0 I J) : ∃ n, f_Model_isRight_L82 (nI p) (nI (g p)) kk n 1 0 I J := by
  have h12 := h.1.1
  have hp := (List.getElem?_eq_some_iff.mp hz).1
  obtain ⟨_, _, z7, _, z4⟩ := h.at' hz
  refine lp2 (fun n (b : Bool) (u : Nat) => f_Model_isRight_L82 (nI p) (nI (g p)) kk n (if b = true then 1 else 0) (nI u) I J) (fun b u => u ≤ p ∧ (b = true → ∀ (u' : Nat) (y : Int64 × Nat), u' < u → ks[u']? = some y → z.2 ≠ y.2 → g p ≠ g u') ∧ (b = false → ∃ (u' : Nat) (y : Int64 × Nat), u' < p ∧ ks[u']? = some y ∧ z.2 ≠ y.2 ∧ g p = g u')) (fun _ u => p - u) ?_ true 0 ⟨Nat.zero_le _, (fun _ u' y hu => absurd hu (Nat.not_lt_zero _)), (fun hh => by cases hh)⟩
  rintro n b u ⟨b1, b2, b3⟩ ih
  unfold f_Model_isRight_L82
  have fin0 : b = false → kk 0 I J := fun hb => by
    obtain ⟨u', y, c1, c2, c3, c4⟩ := b3 hb
    exact q0 u' y c1 c2 c3 c4
  by_cases eu : u = p
  · rw [if_pos (by rw [eu, leNN (by omega) (by omega)]; exact Nat.le_refl _)]
    cases b with
    | true => subst eu; exact q1 (b2 rfl)
    | false => exact fin0 rfl
  · rw [if_neg (by rw [leNN (by omega) (by omega)]; omega)]
    cases b with
    | false =>
      rw [if_pos (show (if false = true then (1 : Int32) else 0) = 0 from rfl)]
      exact fin0 rfl
    | true =>
      have hy := List.getElem?_eq_getElem (show u < ks.length by omega)
      generalize ks[u] = y at hy
      obtain ⟨_, _, y7, _, y4⟩ := h.at' hy
      have c1 := hg u (by omega)
      have c2 := hg p (Nat.le_refl _)
      rw [if_neg (by decide), vpN (by omega), nI_clamp (by omega), he u (by omega)]
      refine ⟨by omega, ?_⟩
      unfold f_Model_isRight_b120 f_Model_isRight_b125
      have next : ¬ (z.2 ≠ y.2 ∧ g p = g u) → ∀ t126 : Int32, t126 = nI u + 1 → f_Model_isRight_L82 (nI p) (nI (g p)) kk n 1 t126 I J := fun hno t et => by
        rw [et, nI_1 u]
        refine ih true (u + 1) ⟨by omega, (fun _ u' y' hu' hy' hne => ?_), (fun hh => by cases hh)⟩ (by omega)
        by_cases huu : u' = u
        · subst huu; rw [hy] at hy'; cases hy'; exact fun e => hno ⟨hne, e⟩
        · exact b2 rfl u' y' (by omega) hy' hne
      by_cases e1 : g u = g p
      · rw [if_pos (by rw [e1]), vpN (by omega), nI_clamp (by omega), y4, z4]
        refine ⟨by omega, by omega, ?_⟩
        by_cases e2 : y.2 = z.2
        · rw [if_pos (by rw [e2])]
          exact next (fun hh => hh.1 e2.symm)
        · rw [if_neg (by rw [eqNN (by omega) (by omega)]; exact e2)]
          intro t et
          rw [et, nI_1 u]
          exact ih false (u + 1) ⟨by omega, (fun hh => by cases hh), fun _ => ⟨u, y, by omega, hy, fun e => e2 e.symm, e1.symm⟩⟩ (by omega)
      · rw [if_neg (by rw [eqNN (by omega) (by omega)]; exact e1)]
        exact next (fun hh => e1 hh.2.symm)
theorem m_right {ks : List (Int64 × Nat)} {k n : Nat} {T : Nat → Nat} {I : MI} {J : MJ} {Q : Int32 → MI → MJ → Prop} (h : KnM I J ks) (hN : n * k ≤ 56) (h0 : 0 < n) (hn : n ≤ 14) (hk : k ≤ 4) (hT : vT n (n * k) T) (hI : TbR I T (n * k)) (hs : ∀ q ∈ ks, ∀ a ∈ wdW q.1, a < k) (q1 : RgT ks k T → ∀ I', (∀ c, c ≠ 220 → I' c = I c) → (∀ (v : Nat) (z : Int64 × Nat), ks[v]? = some z → I' 220 v = nI (eT k T 0 (wdW z.1))) → Q 1 I' J) (q0 : ¬ RgT ks k T → ∀ I', (∀ c, c ≠ 220 → I' c = I c) → Q 0 I' J) : f_Model_isRight (nI k) I J Q := by
  have h12 := h.1.1
  unfold f_Model_isRight
  have gl : ∀ (v : Nat) (z : Int64 × Nat), ks[v]? = some z → eT k T 0 (wdW z.1) < n := fun v z hz => eT_lt hT _ 0 h0 (hs z (List.mem_of_getElem? hz))
  refine lp3 (fun f (b : Bool) (p : Nat) (I1 : MI) => f_Model_isRight_L4 (nI k) _ f (if b = true then 1 else 0) (nI p) I1 J) (fun b p I1 => p ≤ ks.length ∧ (∀ c, c ≠ 220 → I1 c = I c) ∧ (b = true → (∀ (v : Nat) (z : Int64 × Nat), v < p → ks[v]? = some z → I1 220 v = nI (eT k T 0 (wdW z.1))) ∧ ∀ (v u : Nat) (z y : Int64 × Nat), v < p → u < v → ks[v]? = some z → ks[u]? = some y → z.2 ≠ y.2 → eT k T 0 (wdW z.1) ≠ eT k T 0 (wdW y.1)) ∧ (b = false → ¬ RgT ks k T)) (fun _ p _ => ks.length - p) ?_ true 0 I ⟨Nat.zero_le _, fun _ _ => rfl, (fun _ => ⟨fun v z hv => absurd hv (Nat.not_lt_zero _), fun v u z y hv => absurd hv (Nat.not_lt_zero _)⟩), (fun hh => by cases hh)⟩
  rintro f b p I1 ⟨b1, b2, b3, b4⟩ ih
  have h1 : KnM I1 J ks := by
    unfold KnM at *
    rw [b2 177 (by decide), b2 218 (by decide)]
    exact h
  unfold f_Model_isRight_L4
  rw [h1.2.1]
  by_cases ep : p = ks.length
  · rw [if_pos (by rw [ep, leNN (by omega) (by omega)]; exact Nat.le_refl _)]
    cases b with
    | false => exact ⟨Or.inl rfl, q0 (b4 rfl) I1 b2⟩
    | true =>
      obtain ⟨c1, c2⟩ := b3 rfl
      refine ⟨Or.inr rfl, q1 (fun z hz y hy hne => ?_) I1 b2 (fun v z hz => c1 v z (by have := (List.getElem?_eq_some_iff.mp hz).1; omega) hz)⟩
      obtain ⟨v, hv⟩ := List.mem_iff_getElem?.mp hz
      obtain ⟨u, hu⟩ := List.mem_iff_getElem?.mp hy
      have hvl := (List.getElem?_eq_some_iff.mp hv).1
      have hul := (List.getElem?_eq_some_iff.mp hu).1
      rcases Nat.lt_trichotomy u v with hl | hl | hl
      · exact c2 v u z y (by omega) hl hv hu hne
      · subst hl; rw [hv] at hu; cases hu; exact absurd rfl hne
      · exact fun e => c2 u v y z (by omega) hl hu hv (fun e => hne e.symm) e.symm
  · rw [if_neg (by rw [leNN (by omega) (by omega)]; omega)]
    cases b with
    | false =>
      rw [if_pos (show (if false = true then (1 : Int32) else 0) = 0 from rfl)]
      exact ⟨Or.inl rfl, q0 (b4 rfl) I1 b2⟩
    | true =>
      obtain ⟨c1, c2⟩ := b3 rfl
      have hz := List.getElem?_eq_getElem (show p < ks.length by omega)
      generalize ks[p] = z at hz
      have kz := h1.at' hz
      rw [if_neg (by decide), vpN (by omega), nI_clamp (by omega), kz.2.2.2.1]
      refine ⟨by omega, m_len kz.2.1 (m_runT h1 hz hN h0 hT hn hk (fun c hc => by rw [b2 219 (by decide)]; exact hI c hc) (hs z (List.mem_of_getElem? hz)) ⟨by omega, fun I2 e2 => ?_⟩)⟩
      have f2 : ∀ c, c ≠ 220 → I2 c = I c := fun c hc => by rw [e2, sI_n _ _ hc, b2 c hc]
      have h2 : KnM I2 J ks := by
        unfold KnM at *
        rw [f2 177 (by decide), f2 218 (by decide)]
        exact h
      have m : ∀ u, I2 220 u = if u = p then nI (eT k T 0 (wdW z.1)) else I1 220 u := fun u => by rw [e2, sI_s, upd_at]
      have ends : ∀ (v : Nat) (y : Int64 × Nat), v < p + 1 → ks[v]? = some y → I2 220 v = nI (eT k T 0 (wdW y.1)) := fun v y hv hy => by
        rw [m]
        by_cases hvp : v = p
        · subst hvp; rw [hz] at hy; cases hy; rw [if_pos rfl]
        · rw [if_neg hvp]; exact c1 v y (by omega) hy
      have gz : (fun u => eT k T 0 (wdW (ks.getD u (0, 0)).1)) p = eT k T 0 (wdW z.1) := by simp only [List.getD, hz, Option.getD_some]
      have look : ∃ n', f_Model_isRight_L82 (nI p) (nI ((fun u => eT k T 0 (wdW (ks.getD u (0, 0)).1)) p)) (fun (z132_x2 : Int32) (I : MI) (J : MJ) => f_Model_isRight_b132 z132_x2 (nI p) (f_Model_isRight_L4 (nI k) (fun (z138_x2 : Int32) (I : MI) (J : MJ) => (z138_x2 = 0 ∨ z138_x2 = 1) ∧ Q z138_x2 I J) f) I J) n' 1 0 I2 J := by
        refine m_right_in (g := fun u => eT k T 0 (wdW (ks.getD u (0, 0)).1)) h2 hz (fun u hu => ?_) (fun u hu => ?_) (fun hno => ?_) (fun u y hu hy hne heq => ?_)
        · have hy := List.getElem?_eq_getElem (show u < ks.length by omega)
          have := gl u _ hy
          simp only [List.getD, hy, Option.getD_some]
          omega
        · have hy := List.getElem?_eq_getElem (show u < ks.length by omega)
          simp only [List.getD, hy, Option.getD_some]
          exact ends u _ (by omega) hy
        · unfold f_Model_isRight_b132
          intro t et
          rw [et, nI_1 p]
          refine ih true (p + 1) I2 ⟨by omega, f2, (fun _ => ⟨ends, fun v u x y hv huv hx hy hne => ?_⟩), (fun hh => by cases hh)⟩ (by omega)
          by_cases hvp : v = p
          · subst hvp
            rw [hz] at hx
            cases hx
            have := hno u y huv hy hne
            simp only [List.getD, hz, hy, Option.getD_some] at this
            exact this
          · exact c2 v u x y (by omega) huv hx hy hne
        · unfold f_Model_isRight_b132
          intro t et
          rw [et, nI_1 p]
          refine ih false (p + 1) I2 ⟨by omega, f2, (fun hh => by cases hh), fun _ hR => ?_⟩ (by omega)
          simp only [List.getD, hz, hy, Option.getD_some] at heq
          exact hR z (List.mem_of_getElem? hz) y (List.mem_of_getElem? hy) hne heq
      rw [gz] at look
      exact look
